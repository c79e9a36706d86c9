section PLM
variable {nc nr nl nt ck bg : Nat} {S P M : Nat → Nat} {ph xs xp xq xg xv xf xl xc xh xw xz ym yf ys yp yq yl yg yv : Nat → Int32}
theorem pl_big {q : Nat} (h : q ≤ 64) : ¬ (2147483647 : Int32) < nI q := nI_nlt (a := 2147483647) (by omega) (by decide)
theorem pl_s64 {q : Nat} (h : q ≤ 64) : nI q ≤ (64 : Int32) := nI_le (b := 64) h (by decide)
/-- the reference's way to its second half -/
theorem py_pw (H : pl_R nc nr nl nt ck bg S P M ph xs xp xq xg xv xf xl xc xh xw xz ym yf ys yp yq yl yg yv) {c t r : Nat} {yf' : Nat → Int32} (hc : c < nc) (hr : r < nr) (lt : t < bg) (em : ym c = nI t) (p0 : ¬ ph c = 0) (p3 : ¬ ph c = 3) (p4 : ¬ ph c = 4) (g0 : ¬ yg (t * 8 + r) = 0) (g2 : ¬ yg (t * 8 + r) = 2) (lk : pl_lk bg r S xh yf yl yg yf') {post : Int32 → SY → Prop}
    (hp : wY_prewrite_129 post (nI c) (nI r) (nI t) (nI (t * 8 + r)) (nI nc) (nI nr) (nI nl) (nI nt) (nI ck) (nI bg) ph ym yf' ys yp yq yl yg yv) : wpY_prewrite post (nI nc, nI nr, nI nl, nI nt, nI ck, nI bg, ph, ym, yf, ys, yp, yq, yl, yg, yv) (nI c) (nI r) := by
  have hb := pl_b H
  have hc' : ¬ nc ≤ c := by omega
  have hr' : ¬ nr ≤ r := by omega
  simp (disch := omega) only [wpY_prewrite, wpY_badClient, wpY_badRow, hc, hc', hr, hr', p0, p3, p4, em, g0, g2, pl_nq, pl_cc, pl_vc, pl_le8, pl_le32, pl_lt64, pl_lt1, pl_lt8, pl_lt32, nI_pos, nI_pos', vp_in_nI, nI_clamp, nI_1, nI_leI, nI_ltI, nI_eq, forall_eq, true_implies, forall_const, not_true_eq_false, not_false_eq_true, false_implies, and_true, true_and, implies_true, and_self, eq_self]
  rcases lk with ⟨e, z⟩ | ⟨t1, lt1, f2, h2, m, _, z, e⟩
  · subst e
    refine py_ho (by omega) (fun t' a b d => absurd d (z t' a b)) (fun _ => ?_)
    simp (disch := omega) only [pl_m1, pl_cc, pl_vc, pl_le8, pl_le32, pl_lt64, pl_lt1, pl_lt8, pl_lt32, nI_pos, nI_pos', vp_in_nI, nI_clamp, nI_1, nI_leI, nI_ltI, nI_eq, forall_eq, true_implies, forall_const, not_true_eq_false, not_false_eq_true, false_implies, and_true, true_and, implies_true, and_self, eq_self]
    exact hp
  · subst e
    refine py_ho (by omega) (fun t2 a2 b2 d2 => ?_) (fun z2 => absurd h2 (z2 t1 (by omega) f2))
    have n := z t2 a2 b2 d2
    subst n
    simp (disch := omega) only [m, pl_cc, pl_vc, pl_le8, pl_le32, pl_lt64, pl_lt1, pl_lt8, pl_lt32, nI_pos, nI_pos', vp_in_nI, nI_clamp, nI_1, nI_leI, nI_ltI, nI_eq, forall_eq, true_implies, forall_const, not_true_eq_false, not_false_eq_true, false_implies, and_true, true_and, implies_true, and_self, eq_self]
    exact hp
theorem i_vc_prewrite {k : Nat} {u : SX} {v : SY} (I : i_Rel k u v) (hk : k + 4 ≤ 2052) (v1 : Int32) (v2 : Int32) : wpX_prewrite (fun r u' => wpY_prewrite (fun r' v' => r' = r ∧ i_Rel (k + 4) u' v') v v1 v2) u v1 v2 := by
  obtain ⟨nc, nr, nl, nt, ck, bg, S, P, M, ph, xs, xp, xq, xg, xv, xf, xl, xc, xh, xw, xz, ym, yf, ys, yp, yq, yl, yg, yv, rfl, rfl, H⟩ := I
  have hb := pl_b H
  rcases pl_ix v1 (n := nc) (by omega) with h | ⟨h, h', h''⟩ | ⟨c, hc, rfl⟩
  · simp (disch := omega) only [wpX_prewrite, wpX_isClient, wpY_prewrite, wpY_badClient, h, pl_nq, pl_cc, pl_vc, pl_le8, pl_le32, pl_lt64, pl_lt1, pl_lt8, pl_lt32, nI_pos, nI_pos', vp_in_nI, nI_clamp, nI_1, nI_leI, nI_ltI, nI_eq, forall_eq, true_implies, forall_const, not_true_eq_false, not_false_eq_true, false_implies, and_true, true_and, implies_true, and_self, eq_self]
    exact pl_mk H
  · simp (disch := omega) only [wpX_prewrite, wpX_isClient, wpY_prewrite, wpY_badClient, h, h', h'', pl_nq, pl_cc, pl_vc, pl_le8, pl_le32, pl_lt64, pl_lt1, pl_lt8, pl_lt32, nI_pos, nI_pos', vp_in_nI, nI_clamp, nI_1, nI_leI, nI_ltI, nI_eq, forall_eq, true_implies, forall_const, not_true_eq_false, not_false_eq_true, false_implies, and_true, true_and, implies_true, and_self, eq_self]
    exact pl_mk H
  · have hc' : ¬ nc ≤ c := by omega
    rcases pl_ix v2 (n := nr) (by omega) with h | ⟨h, h', h''⟩ | ⟨r, hr, rfl⟩
    · simp (disch := omega) only [wpX_prewrite, wpX_isClient, wpX_isRow, wpY_prewrite, wpY_badClient, wpY_badRow, hc, hc', h, pl_nq, pl_cc, pl_vc, pl_le8, pl_le32, pl_lt64, pl_lt1, pl_lt8, pl_lt32, nI_pos, nI_pos', vp_in_nI, nI_clamp, nI_1, nI_leI, nI_ltI, nI_eq, forall_eq, true_implies, forall_const, not_true_eq_false, not_false_eq_true, false_implies, and_true, true_and, implies_true, and_self, eq_self]
      exact pl_mk H
    · simp (disch := omega) only [wpX_prewrite, wpX_isClient, wpX_isRow, wpY_prewrite, wpY_badClient, wpY_badRow, hc, hc', h, h', h'', pl_nq, pl_cc, pl_vc, pl_le8, pl_le32, pl_lt64, pl_lt1, pl_lt8, pl_lt32, nI_pos, nI_pos', vp_in_nI, nI_clamp, nI_1, nI_leI, nI_ltI, nI_eq, forall_eq, true_implies, forall_const, not_true_eq_false, not_false_eq_true, false_implies, and_true, true_and, implies_true, and_self, eq_self]
      exact pl_mk H
    · have hr' : ¬ nr ≤ r := by omega
      rcases pl_cl H (c := c) (by omega) with ⟨m0, p0, _⟩ | ⟨t, m1, lt, p0, em, es, et, l1, l2, ef, ok, eq, eq', eg, _⟩
      · simp (disch := omega) only [wpX_prewrite, wpX_isClient, wpX_isRow, wpY_prewrite, wpY_badClient, wpY_badRow, hc, hc', hr, hr', p0, pl_nq, pl_cc, pl_vc, pl_le8, pl_le32, pl_lt64, pl_lt1, pl_lt8, pl_lt32, nI_pos, nI_pos', vp_in_nI, nI_clamp, nI_1, nI_leI, nI_ltI, nI_eq, forall_eq, true_implies, forall_const, not_true_eq_false, not_false_eq_true, false_implies, and_true, true_and, implies_true, and_self, eq_self]
        exact pl_mk H
      · by_cases p3 : ph c = 3
        · simp (disch := omega) only [wpX_prewrite, wpX_isClient, wpX_isRow, wpY_prewrite, wpY_badClient, wpY_badRow, hc, hc', hr, hr', p3, pl_nq, pl_cc, pl_vc, pl_le8, pl_le32, pl_lt64, pl_lt1, pl_lt8, pl_lt32, nI_pos, nI_pos', vp_in_nI, nI_clamp, nI_1, nI_leI, nI_ltI, nI_eq, forall_eq, true_implies, forall_const, not_true_eq_false, not_false_eq_true, false_implies, and_true, true_and, implies_true, and_self, eq_self]
          exact pl_mk H
        · by_cases p4 : ph c = 4
          · simp (disch := omega) only [wpX_prewrite, wpX_isClient, wpX_isRow, wpY_prewrite, wpY_badClient, wpY_badRow, hc, hc', hr, hr', p4, pl_nq, pl_cc, pl_vc, pl_le8, pl_le32, pl_lt64, pl_lt1, pl_lt8, pl_lt32, nI_pos, nI_pos', vp_in_nI, nI_clamp, nI_1, nI_leI, nI_ltI, nI_eq, forall_eq, true_implies, forall_const, not_true_eq_false, not_false_eq_true, false_implies, and_true, true_and, implies_true, and_self, eq_self]
            exact pl_mk H
          · have e0 := (eg r (by omega)).1
            by_cases g0 : yg (t * 8 + r) = 0
            · simp (disch := omega) only [wpX_prewrite, wpX_isClient, wpX_isRow, wpX_clientCell, wpY_prewrite, wpY_badClient, wpY_badRow, hc, hc', hr, hr', p0, p3, p4, em, e0, g0, pl_nq, pl_cc, pl_vc, pl_le8, pl_le32, pl_lt64, pl_lt1, pl_lt8, pl_lt32, nI_pos, nI_pos', vp_in_nI, nI_clamp, nI_1, nI_leI, nI_ltI, nI_eq, forall_eq, true_implies, forall_const, not_true_eq_false, not_false_eq_true, false_implies, and_true, true_and, implies_true, and_self, eq_self]
              exact pl_mk H
            · by_cases g2 : yg (t * 8 + r) = 2
              · simp (disch := omega) only [wpX_prewrite, wpX_isClient, wpX_isRow, wpX_clientCell, wpY_prewrite, wpY_badClient, wpY_badRow, hc, hc', hr, hr', p0, p3, p4, em, e0, g2, pl_nq, pl_cc, pl_vc, pl_le8, pl_le32, pl_lt64, pl_lt1, pl_lt8, pl_lt32, nI_pos, nI_pos', vp_in_nI, nI_clamp, nI_1, nI_leI, nI_ltI, nI_eq, forall_eq, true_implies, forall_const, not_true_eq_false, not_false_eq_true, false_implies, and_true, true_and, implies_true, and_self, eq_self]
                exact pl_mk H
              · simp (disch := omega) only [wpX_prewrite, wpX_isClient, wpX_isRow, wpX_clientCell, hc, hc', hr, hr', p0, p3, p4, e0, g0, g2, pl_nq, pl_cc, pl_vc, pl_le8, pl_le32, pl_lt64, pl_lt1, pl_lt8, pl_lt32, nI_pos, nI_pos', vp_in_nI, nI_clamp, nI_1, nI_leI, nI_ltI, nI_eq, forall_eq, true_implies, forall_const, not_true_eq_false, not_false_eq_true, false_implies, and_true, true_and, implies_true, and_self, eq_self]
                refine px_clear H hr (fun t1 lt1 f1 h1 m e1 z => ?_) ?_
                · simp (disch := omega) only [wpY_prewrite, wpY_badClient, wpY_badRow, hc, hc', hr, hr', p0, p3, p4, em, g0, g2, pl_nq, pl_cc, pl_vc, pl_le8, pl_le32, pl_lt64, pl_lt1, pl_lt8, pl_lt32, nI_pos, nI_pos', vp_in_nI, nI_clamp, nI_1, nI_leI, nI_ltI, nI_eq, forall_eq, true_implies, forall_const, not_true_eq_false, not_false_eq_true, false_implies, and_true, true_and, implies_true, and_self, eq_self]
                  refine py_ho (by omega) (fun t2 a2 b2 d2 => ?_) (fun z2 => absurd h1 (z2 t1 (by omega) f1))
                  have n := z t2 a2 b2 d2
                  subst n
                  simp (disch := omega) only [m, pl_cc, pl_vc, pl_le8, pl_le32, pl_lt64, pl_lt1, pl_lt8, pl_lt32, nI_pos, nI_pos', vp_in_nI, nI_clamp, nI_1, nI_leI, nI_ltI, nI_eq, forall_eq, true_implies, forall_const, not_true_eq_false, not_false_eq_true, false_implies, and_true, true_and, implies_true, and_self, eq_self]
                  exact pl_mk H
                · intro xf' xh' yf' H' hh lk
                  simp (disch := omega) only [es, pl_nq, pl_cc, pl_vc, pl_le8, pl_le32, pl_lt64, pl_lt1, pl_lt8, pl_lt32, nI_pos, nI_pos', vp_in_nI, nI_clamp, nI_1, nI_leI, nI_ltI, nI_eq, forall_eq, true_implies, forall_const, not_true_eq_false, not_false_eq_true, false_implies, and_true, true_and, implies_true, and_self, eq_self]
                  have pw := fun (post : Int32 → SY → Prop) (hp : wY_prewrite_129 post (nI c) (nI r) (nI t) (nI (t * 8 + r)) (nI nc) (nI nr) (nI nl) (nI nt) (nI ck) (nI bg) ph ym yf' ys yp yq yl yg yv) => py_pw H hc hr lt em p0 p3 p4 g0 g2 lk hp
                  have ef' : xf' (S t) = yf' t := H'.2.2.2.2.2.2.2.2.2.2.2.2.2.1 t lt
                  -- the last part, where no newer version stands
                  have fin : ∀ (q : Int32) (Y : ∀ post : Int32 → SY → Prop, wY_prewrite_162 post (nI c) (nI r) (nI t) (nI (t * 8 + r)) (nI nc) (nI nr) (nI nl) (nI nt) (nI ck) (nI bg) ph ym yf' ys yp yq yl yg yv → wpY_prewrite post (nI nc, nI nr, nI nl, nI nt, nI ck, nI bg, ph, ym, yf, ys, yp, yq, yl, yg, yv) (nI c) (nI r)),
                      (ph c = 1 → wX_prewrite_138 (fun r_1 u' => wpY_prewrite (fun r' v' => r' = r_1 ∧ i_Rel (k + 4) u' v') (nI nc, nI nr, nI nl, nI nt, nI ck, nI bg, ph, ym, yf, ys, yp, yq, yl, yg, yv) (nI c) (nI r)) (nI c) (nI r) (nI nc) (nI nr) (nI nl) (nI nt) (nI ck) (nI bg) (upd ph c 2) xs xp (upd xq c (nI r)) (upd xg (c * 8 + r) 2) xv (upd xf' (S t) 2) (upd xl (S t) (nI nl)) xc xh' xw xz) ∧
                      (¬ ph c = 1 → wX_prewrite_138 (fun r_1 u' => wpY_prewrite (fun r' v' => r' = r_1 ∧ i_Rel (k + 4) u' v') (nI nc, nI nr, nI nl, nI nt, nI ck, nI bg, ph, ym, yf, ys, yp, yq, yl, yg, yv) (nI c) (nI r)) (nI c) (nI r) (nI nc) (nI nr) (nI nl) (nI nt) (nI ck) (nI bg) ph xs xp xq (upd xg (c * 8 + r) 2) xv xf' xl xc xh' xw xz) := by
                    intro q Y
                    refine br_c (fun p1 => ?_) (fun p1 => ?_)
                    · simp (disch := omega) only [wX_prewrite_138, es, pl_us, pl_cc, pl_vc, pl_le8, pl_le32, pl_lt64, pl_lt1, pl_lt8, pl_lt32, nI_pos, nI_pos', vp_in_nI, nI_clamp, nI_1, nI_leI, nI_ltI, nI_eq, forall_eq, true_implies, forall_const, not_true_eq_false, not_false_eq_true, false_implies, and_true, true_and, implies_true, and_self, eq_self]
                      refine Y _ ?_
                      simp (disch := omega) only [wY_prewrite_162, p1, pl_cc, pl_vc, pl_le8, pl_le32, pl_lt64, pl_lt1, pl_lt8, pl_lt32, nI_pos, nI_pos', vp_in_nI, nI_clamp, nI_1, nI_leI, nI_ltI, nI_eq, forall_eq, true_implies, forall_const, not_true_eq_false, not_false_eq_true, false_implies, and_true, true_and, implies_true, and_self, eq_self]
                      exact pl_mk (pl_hold (pl_pend H' (by omega) m1 p1 hr) (by omega) m1 pl_us pl_us hr hh g0)
                    · have p2 : ph c = 2 := by
                        unfold pl_ok at ok
                        rcases ok with z | z | z | z
                        · exact absurd z.1 p1
                        · exact z.1
                        · exact absurd z.1 p3
                        · exact absurd z.1 p4
                      by_cases f2 : yf' t = 2
                      · simp (disch := omega) only [wX_prewrite_138, es, ef', f2, pl_cc, pl_vc, pl_le8, pl_le32, pl_lt64, pl_lt1, pl_lt8, pl_lt32, nI_pos, nI_pos', vp_in_nI, nI_clamp, nI_1, nI_leI, nI_ltI, nI_eq, forall_eq, true_implies, forall_const, not_true_eq_false, not_false_eq_true, false_implies, and_true, true_and, implies_true, and_self, eq_self]
                        refine Y _ ?_
                        simp (disch := omega) only [wY_prewrite_162, p1, pl_cc, pl_vc, pl_le8, pl_le32, pl_lt64, pl_lt1, pl_lt8, pl_lt32, nI_pos, nI_pos', vp_in_nI, nI_clamp, nI_1, nI_leI, nI_ltI, nI_eq, forall_eq, true_implies, forall_const, not_true_eq_false, not_false_eq_true, false_implies, and_true, true_and, implies_true, and_self, eq_self]
                        exact pl_mk (pl_hold H' (by omega) m1 p2 f2 hr hh g0)
                      · simp (disch := omega) only [wX_prewrite_138, es, ef', f2, pl_cc, pl_vc, pl_le8, pl_le32, pl_lt64, pl_lt1, pl_lt8, pl_lt32, nI_pos, nI_pos', vp_in_nI, nI_clamp, nI_1, nI_leI, nI_ltI, nI_eq, forall_eq, true_implies, forall_const, not_true_eq_false, not_false_eq_true, false_implies, and_true, true_and, implies_true, and_self, eq_self]
                        refine Y _ ?_
                        simp (disch := omega) only [wY_prewrite_162, p1, pl_cc, pl_vc, pl_le8, pl_le32, pl_lt64, pl_lt1, pl_lt8, pl_lt32, nI_pos, nI_pos', vp_in_nI, nI_clamp, nI_1, nI_leI, nI_ltI, nI_eq, forall_eq, true_implies, forall_const, not_true_eq_false, not_false_eq_true, false_implies, and_true, true_and, implies_true, and_self, eq_self]
                        exact pl_mk (pl_stg H' (by omega) m1 p1 f2 hr g0 (by decide))
                  rcases pl_nwb H' (r := r) (by omega) 64 2147483647 (fun _ => True) (fun q l => ⟨fun _ => trivial, fun _ => pl_s64 l⟩) (fun q l => ⟨fun _ => trivial, fun _ => pl_big l⟩) with ⟨t2, lt2, f3, k1, k2, ep, ez, kX, kY⟩ | ⟨kX, kY⟩
                  · refine kX _ ?_
                    by_cases le : P t2 ≤ S t
                    · simp (disch := omega) only [wpX_makePending, es, le, pl_cc, pl_vc, pl_le8, pl_le32, pl_lt64, pl_lt1, pl_lt8, pl_lt32, nI_pos, nI_pos', vp_in_nI, nI_clamp, nI_1, nI_leI, nI_ltI, nI_eq, forall_eq, true_implies, forall_const, not_true_eq_false, not_false_eq_true, false_implies, and_true, true_and, implies_true, and_self, eq_self]
                      refine fin 0 (fun post hp => pw post ?_)
                      unfold wY_prewrite_129
                      refine kY _ ?_
                      simp (disch := omega) only [ep, et, le, pl_cc, pl_vc, pl_le8, pl_le32, pl_lt64, pl_lt1, pl_lt8, pl_lt32, nI_pos, nI_pos', vp_in_nI, nI_clamp, nI_1, nI_leI, nI_ltI, nI_eq, forall_eq, true_implies, forall_const, not_true_eq_false, not_false_eq_true, false_implies, and_true, true_and, implies_true, and_self, eq_self]
                      exact hp
                    · simp (disch := omega) only [le, pl_cc, pl_vc, pl_le8, pl_le32, pl_lt64, pl_lt1, pl_lt8, pl_lt32, nI_pos, nI_pos', vp_in_nI, nI_clamp, nI_1, nI_leI, nI_ltI, nI_eq, forall_eq, true_implies, forall_const, not_true_eq_false, not_false_eq_true, false_implies, and_true, true_and, implies_true, and_self, eq_self]
                      refine pw _ ?_
                      unfold wY_prewrite_129
                      refine kY _ ?_
                      simp (disch := omega) only [ep, et, le, pl_cc, pl_vc, pl_le8, pl_le32, pl_lt64, pl_lt1, pl_lt8, pl_lt32, nI_pos, nI_pos', vp_in_nI, nI_clamp, nI_1, nI_leI, nI_ltI, nI_eq, forall_eq, true_implies, forall_const, not_true_eq_false, not_false_eq_true, false_implies, and_true, true_and, implies_true, and_self, eq_self]
                      exact pl_mk H'
                  · refine kX _ ?_
                    have le : (-1 : Int32) ≤ nI (S t) := Int32.le_trans (by decide : (-1 : Int32) ≤ 0) (nI_pos' (by omega))
                    simp (disch := omega) only [wpX_makePending, es, le, pl_cc, pl_vc, pl_le8, pl_le32, pl_lt64, pl_lt1, pl_lt8, pl_lt32, nI_pos, nI_pos', vp_in_nI, nI_clamp, nI_1, nI_leI, nI_ltI, nI_eq, forall_eq, true_implies, forall_const, not_true_eq_false, not_false_eq_true, false_implies, and_true, true_and, implies_true, and_self, eq_self]
                    refine fin 0 (fun post hp => pw post ?_)
                    unfold wY_prewrite_129
                    refine kY _ ?_
                    simp (disch := omega) only [pl_m1, pl_cc, pl_vc, pl_le8, pl_le32, pl_lt64, pl_lt1, pl_lt8, pl_lt32, nI_pos, nI_pos', vp_in_nI, nI_clamp, nI_1, nI_leI, nI_ltI, nI_eq, forall_eq, true_implies, forall_const, not_true_eq_false, not_false_eq_true, false_implies, and_true, true_and, implies_true, and_self, eq_self]
                    exact hp
end PLM
