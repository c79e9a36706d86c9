section PLL
variable {nc nr nl nt ck bg : Nat} {S P M : Nat → Nat} {ph xs xp xq xg xv xf xl xc xh xw xz ym yf ys yp yq yl yg yv : Nat → Int32}
theorem i_vc_stamp {k : Nat} {u : SX} {v : SY} (I : i_Rel k u v) (hk : k + 4 ≤ 2052) (v1 : Int32) : wpX_stamp (fun r u' => wpY_stamp (fun r' v' => r' = r ∧ i_Rel (k + 4) u' v') v v1) u v1 := by
  obtain ⟨nc, nr, nl, nt, ck, bg, S, P, M, ph, xs, xp, xq, xg, xv, xf, xl, xc, xh, xw, xz, ym, yf, ys, yp, yq, yl, yg, yv, rfl, rfl, H⟩ := I
  have hb := pl_b H
  rcases pl_ix v1 (n := nc) (by omega) with h | ⟨h, h', h''⟩ | ⟨c, hc, rfl⟩
  · simp (disch := omega) only [wpX_stamp, wpX_isClient, wpY_stamp, wpY_badClient, h, pl_nq, pl_cc, pl_vc, pl_le8, pl_le32, pl_lt64, pl_lt1, pl_lt8, pl_lt32, nI_pos, nI_pos', vp_in_nI, nI_clamp, nI_1, nI_leI, nI_ltI, nI_eq, forall_eq, true_implies, forall_const, not_true_eq_false, not_false_eq_true, false_implies, and_true, true_and, implies_true, and_self, eq_self]
    exact pl_mk H
  · simp (disch := omega) only [wpX_stamp, wpX_isClient, wpY_stamp, wpY_badClient, h, h', h'', pl_nq, pl_cc, pl_vc, pl_le8, pl_le32, pl_lt64, pl_lt1, pl_lt8, pl_lt32, nI_pos, nI_pos', vp_in_nI, nI_clamp, nI_1, nI_leI, nI_ltI, nI_eq, forall_eq, true_implies, forall_const, not_true_eq_false, not_false_eq_true, false_implies, and_true, true_and, implies_true, and_self, eq_self]
    exact pl_mk H
  · have hc' : ¬ nc ≤ c := by omega
    rcases pl_cl H (c := c) (by omega) with ⟨m0, p0, _⟩ | ⟨t, m1, lt, p0, em, es, et, l1, l2, ef, ok, eq, eq', eg, _⟩
    · simp (disch := omega) only [wpX_stamp, wpX_isClient, wpY_stamp, wpY_badClient, hc, hc', p0, pl_nq, pl_cc, pl_vc, pl_le8, pl_le32, pl_lt64, pl_lt1, pl_lt8, pl_lt32, nI_pos, nI_pos', vp_in_nI, nI_clamp, nI_1, nI_leI, nI_ltI, nI_eq, forall_eq, true_implies, forall_const, not_true_eq_false, not_false_eq_true, false_implies, and_true, true_and, implies_true, and_self, eq_self]
      exact pl_mk H
    · by_cases p2 : ph c = 2
      · simp (disch := omega) only [wpX_stamp, wpX_isClient, wpX_drawTimestamp, hc, hc', p2, pl_nq, pl_cc, pl_vc, pl_le8, pl_le32, pl_lt64, pl_lt1, pl_lt8, pl_lt32, nI_pos, nI_pos', vp_in_nI, nI_clamp, nI_1, nI_leI, nI_ltI, nI_eq, forall_eq, true_implies, forall_const, not_true_eq_false, not_false_eq_true, false_implies, and_true, true_and, implies_true, and_self, eq_self]
        refine px_hp (by omega) (by omega) (fun r lr g1 => ?_) (fun hz => ?_)
        · simp (disch := omega) only [wpY_stamp, wpY_badClient, hc, hc', p2, em, pl_nq, pl_cc, pl_vc, pl_le8, pl_le32, pl_lt64, pl_lt1, pl_lt8, pl_lt32, nI_pos, nI_pos', vp_in_nI, nI_clamp, nI_1, nI_leI, nI_ltI, nI_eq, forall_eq, true_implies, forall_const, not_true_eq_false, not_false_eq_true, false_implies, and_true, true_and, implies_true, and_self, eq_self]
          refine py_st (by omega) (by omega) (fun _ _ _ => ?_) (fun z => ?_)
          · exact ⟨rfl, pl_mk H⟩
          · rw [(eg r (by omega)).1] at g1
            exact absurd g1 (z r (by omega))
        · simp (disch := omega) only [wpY_stamp, wpY_badClient, hc, hc', p2, em, pl_us, pl_nq, pl_cc, pl_vc, pl_le8, pl_le32, pl_lt64, pl_lt1, pl_lt8, pl_lt32, nI_pos, nI_pos', vp_in_nI, nI_clamp, nI_1, nI_leI, nI_ltI, nI_eq, forall_eq, true_implies, forall_const, not_true_eq_false, not_false_eq_true, false_implies, and_true, true_and, implies_true, and_self, eq_self]
          refine py_st (by omega) (by omega) (fun r lr g1 => ?_) (fun z => ?_)
          · by_cases l : r < nr
            · have y := hz r l
              rw [(eg r (by omega)).1] at y
              exact absurd g1 y
            · have y := H.2.2.2.2.2.2.1 t r (by omega) (by omega) lr
              rw [g1] at y
              exact absurd y (by decide)
          · exact ⟨rfl, pl_mk (pl_stamp H (by omega) m1 p2)⟩
      · simp (disch := omega) only [wpX_stamp, wpX_isClient, wpY_stamp, wpY_badClient, hc, hc', p0, p2, pl_nq, pl_cc, pl_vc, pl_le8, pl_le32, pl_lt64, pl_lt1, pl_lt8, pl_lt32, nI_pos, nI_pos', vp_in_nI, nI_clamp, nI_1, nI_leI, nI_ltI, nI_eq, forall_eq, true_implies, forall_const, not_true_eq_false, not_false_eq_true, false_implies, and_true, true_and, implies_true, and_self, eq_self]
        exact pl_mk H
/-! a holder in the way -/
def pl_lk (bg r : Nat) (S : Nat → Nat) (xh yf yl yg yf' : Nat → Int32) : Prop :=
  (yf' = yf ∧ ∀ t, t < 32 → yf t = 2 → ¬ yg (t * 8 + r) = 2) ∨ ∃ t, t < bg ∧ yf t = 2 ∧ yg (t * 8 + r) = 2 ∧ yl t ≤ 0 ∧ xh r = nI (S t) ∧ (∀ t', t' < 32 → yf t' = 2 → yg (t' * 8 + r) = 2 → t' = t) ∧ yf' = upd yf t 4
theorem px_clear (H : pl_R nc nr nl nt ck bg S P M ph xs xp xq xg xv xf xl xc xh xw xz ym yf ys yp yq yl yg yv) {r : Nat} (hr : r < nr) {post : Int32 → SX → Prop}
    (hL : ∀ t, t < bg → yf t = 2 → yg (t * 8 + r) = 2 → ¬ yl t ≤ 0 → xh r = nI (S t) → (∀ t', t' < 32 → yf t' = 2 → yg (t' * 8 + r) = 2 → t' = t) → post 0 (nI nc, nI nr, nI nl, nI nt, nI ck, nI bg, ph, xs, xp, xq, xg, xv, xf, xl, xc, xh, xw, xz))
    (hN : ∀ xf' xh' yf', pl_R nc nr nl nt ck bg S P M ph xs xp xq xg xv xf' xl xc xh' xw xz ym yf' ys yp yq yl yg yv → xh' r = -1 → pl_lk bg r S xh yf yl yg yf' → post 1 (nI nc, nI nr, nI nl, nI nt, nI ck, nI bg, ph, xs, xp, xq, xg, xv, xf', xl, xc, xh', xw, xz)) : wpX_clearTheWay post (nI nc, nI nr, nI nl, nI nt, nI ck, nI bg, ph, xs, xp, xq, xg, xv, xf, xl, xc, xh, xw, xz) (nI r) := by
  have hb := pl_b H
  rcases pl_hd H hr with ⟨e, z⟩ | ⟨t, lt, f2, g2, e, et, l1, l2, el, z⟩
  · simp (disch := omega) only [wpX_clearTheWay, e, pl_cc, pl_vc, pl_le8, pl_le32, pl_lt64, pl_lt1, pl_lt8, pl_lt32, nI_pos, nI_pos', vp_in_nI, nI_clamp, nI_1, nI_leI, nI_ltI, nI_eq, forall_eq, true_implies, forall_const, not_true_eq_false, not_false_eq_true, false_implies, and_true, true_and, implies_true, and_self, eq_self]
    exact hN xf xh yf H e (Or.inl ⟨rfl, z⟩)
  · have ne : ¬ nI (S t) = -1 := pl_ne1 (by omega)
    by_cases l : yl t ≤ 0
    · simp (disch := omega) only [wpX_clearTheWay, e, ne, el, l, pl_cc, pl_vc, pl_le8, pl_le32, pl_lt64, pl_lt1, pl_lt8, pl_lt32, nI_pos, nI_pos', vp_in_nI, nI_clamp, nI_1, nI_leI, nI_ltI, nI_eq, forall_eq, true_implies, forall_const, not_true_eq_false, not_false_eq_true, false_implies, and_true, true_and, implies_true, and_self, eq_self]
      refine px_roll (by omega) (by omega) ?_
      exact hN _ _ _ (pl_roll H lt f2) (pl_eh_i hr e) (Or.inr ⟨t, lt, f2, g2, l, e, z, rfl⟩)
    · simp (disch := omega) only [wpX_clearTheWay, e, ne, el, l, pl_cc, pl_vc, pl_le8, pl_le32, pl_lt64, pl_lt1, pl_lt8, pl_lt32, nI_pos, nI_pos', vp_in_nI, nI_clamp, nI_1, nI_leI, nI_ltI, nI_eq, forall_eq, true_implies, forall_const, not_true_eq_false, not_false_eq_true, false_implies, and_true, true_and, implies_true, and_self, eq_self]
      exact hL t lt f2 g2 l e z
theorem i_vc_read {k : Nat} {u : SX} {v : SY} (I : i_Rel k u v) (hk : k + 4 ≤ 2052) (v1 : Int32) (v2 : Int32) : wpX_read (fun r u' => wpY_read (fun r' v' => r' = r ∧ i_Rel (k + 4) u' v') v v1 v2) u v1 v2 := by
  obtain ⟨nc, nr, nl, nt, ck, bg, S, P, M, ph, xs, xp, xq, xg, xv, xf, xl, xc, xh, xw, xz, ym, yf, ys, yp, yq, yl, yg, yv, rfl, rfl, H⟩ := I
  have hb := pl_b H
  rcases pl_ix v1 (n := nc) (by omega) with h | ⟨h, h', h''⟩ | ⟨c, hc, rfl⟩
  · simp (disch := omega) only [wpX_read, wpX_isClient, wpY_read, wpY_badClient, h, pl_nq, pl_cc, pl_vc, pl_le8, pl_le32, pl_lt64, pl_lt1, pl_lt8, pl_lt32, nI_pos, nI_pos', vp_in_nI, nI_clamp, nI_1, nI_leI, nI_ltI, nI_eq, forall_eq, true_implies, forall_const, not_true_eq_false, not_false_eq_true, false_implies, and_true, true_and, implies_true, and_self, eq_self]
    exact pl_mk H
  · simp (disch := omega) only [wpX_read, wpX_isClient, wpY_read, wpY_badClient, h, h', h'', pl_nq, pl_cc, pl_vc, pl_le8, pl_le32, pl_lt64, pl_lt1, pl_lt8, pl_lt32, nI_pos, nI_pos', vp_in_nI, nI_clamp, nI_1, nI_leI, nI_ltI, nI_eq, forall_eq, true_implies, forall_const, not_true_eq_false, not_false_eq_true, false_implies, and_true, true_and, implies_true, and_self, eq_self]
    exact pl_mk H
  · have hc' : ¬ nc ≤ c := by omega
    rcases pl_ix v2 (n := nr) (by omega) with h | ⟨h, h', h''⟩ | ⟨r, hr, rfl⟩
    · simp (disch := omega) only [wpX_read, wpX_isClient, wpX_isRow, wpY_read, wpY_badClient, wpY_badRow, hc, hc', h, pl_nq, pl_cc, pl_vc, pl_le8, pl_le32, pl_lt64, pl_lt1, pl_lt8, pl_lt32, nI_pos, nI_pos', vp_in_nI, nI_clamp, nI_1, nI_leI, nI_ltI, nI_eq, forall_eq, true_implies, forall_const, not_true_eq_false, not_false_eq_true, false_implies, and_true, true_and, implies_true, and_self, eq_self]
      exact pl_mk H
    · simp (disch := omega) only [wpX_read, wpX_isClient, wpX_isRow, wpY_read, wpY_badClient, wpY_badRow, hc, hc', h, h', h'', pl_nq, pl_cc, pl_vc, pl_le8, pl_le32, pl_lt64, pl_lt1, pl_lt8, pl_lt32, nI_pos, nI_pos', vp_in_nI, nI_clamp, nI_1, nI_leI, nI_ltI, nI_eq, forall_eq, true_implies, forall_const, not_true_eq_false, not_false_eq_true, false_implies, and_true, true_and, implies_true, and_self, eq_self]
      exact pl_mk H
    · have hr' : ¬ nr ≤ r := by omega
      rcases pl_cl H (c := c) (by omega) with ⟨m0, p0, _⟩ | ⟨t, m1, lt, p0, em, es, et, l1, l2, ef, ok, eq, eq', eg, _⟩
      · simp (disch := omega) only [wpX_read, wpX_isClient, wpX_isRow, wpY_read, wpY_badClient, wpY_badRow, hc, hc', hr, hr', p0, pl_nq, pl_cc, pl_vc, pl_le8, pl_le32, pl_lt64, pl_lt1, pl_lt8, pl_lt32, nI_pos, nI_pos', vp_in_nI, nI_clamp, nI_1, nI_leI, nI_ltI, nI_eq, forall_eq, true_implies, forall_const, not_true_eq_false, not_false_eq_true, false_implies, and_true, true_and, implies_true, and_self, eq_self]
        exact pl_mk H
      · -- the value, once the way is clear
        have tail : ∀ xf' xh' yf', pl_R nc nr nl nt ck bg S P M ph xs xp xq xg xv xf' xl xc xh' xw xz ym yf' ys yp yq yl yg yv → (∀ post : Int32 → SY → Prop, wY_read_87 post (nI r) (nI (S t)) (nI nc) (nI nr) (nI nl) (nI nt) (nI ck) (nI bg) ph ym yf' ys yp yq yl yg yv → wpY_read post (nI nc, nI nr, nI nl, nI nt, nI ck, nI bg, ph, ym, yf, ys, yp, yq, yl, yg, yv) (nI c) (nI r)) →
            wX_read_59 (fun r_1 u' => wpY_read (fun r' v' => r' = r_1 ∧ i_Rel (k + 4) u' v') (nI nc, nI nr, nI nl, nI nt, nI ck, nI bg, ph, ym, yf, ys, yp, yq, yl, yg, yv) (nI c) (nI r)) (nI r) (nI (S t)) (nI nc) (nI nr) (nI nl) (nI nt) (nI ck) (nI bg) ph xs xp xq xg xv xf' xl xc xh' xw xz := by
          intro xf' xh' yf' H' hY
          simp (disch := omega) only [wX_read_59, wpX_valueAt]
          rcases pl_nwb H' (r := r) (by omega) (nI (S t)) (nI (S t)) (fun q => nI q ≤ nI (S t)) (fun _ _ => Iff.rfl) (fun _ _ => Int32.not_lt) with ⟨t2, lt2, f3, k1, k2, ep, ez, kX, kY⟩ | ⟨kX, kY⟩
          · refine kX _ ?_
            have ne : ¬ nI (P t2) = -1 := pl_ne1 (by omega)
            simp (disch := omega) only [wpX_versionCell, ne, pl_cc, pl_vc, pl_le8, pl_le32, pl_lt64, pl_lt1, pl_lt8, pl_lt32, nI_pos, nI_pos', vp_in_nI, nI_clamp, nI_1, nI_leI, nI_ltI, nI_eq, forall_eq, true_implies, forall_const, not_true_eq_false, not_false_eq_true, false_implies, and_true, true_and, implies_true, and_self, eq_self]
            refine hY _ ?_
            simp (disch := omega) only [wY_read_87, wpY_peek, wpY_badRow, hr, pl_cc, pl_vc, pl_le8, pl_le32, pl_lt64, pl_lt1, pl_lt8, pl_lt32, nI_pos, nI_pos', vp_in_nI, nI_clamp, nI_1, nI_leI, nI_ltI, nI_eq, forall_eq, true_implies, forall_const, not_true_eq_false, not_false_eq_true, false_implies, and_true, true_and, implies_true, and_self, eq_self]
            refine kY _ ?_
            simp (disch := omega) only [ez, pl_cc, pl_vc, pl_le8, pl_le32, pl_lt64, pl_lt1, pl_lt8, pl_lt32, nI_pos, nI_pos', vp_in_nI, nI_clamp, nI_1, nI_leI, nI_ltI, nI_eq, forall_eq, true_implies, forall_const, not_true_eq_false, not_false_eq_true, false_implies, and_true, true_and, implies_true, and_self, eq_self]
            exact pl_mk H'
          · refine kX _ ?_
            simp (disch := omega) only [pl_m1, pl_cc, pl_vc, pl_le8, pl_le32, pl_lt64, pl_lt1, pl_lt8, pl_lt32, nI_pos, nI_pos', vp_in_nI, nI_clamp, nI_1, nI_leI, nI_ltI, nI_eq, forall_eq, true_implies, forall_const, not_true_eq_false, not_false_eq_true, false_implies, and_true, true_and, implies_true, and_self, eq_self]
            refine hY _ ?_
            simp (disch := omega) only [wY_read_87, wpY_peek, wpY_badRow, hr, pl_cc, pl_vc, pl_le8, pl_le32, pl_lt64, pl_lt1, pl_lt8, pl_lt32, nI_pos, nI_pos', vp_in_nI, nI_clamp, nI_1, nI_leI, nI_ltI, nI_eq, forall_eq, true_implies, forall_const, not_true_eq_false, not_false_eq_true, false_implies, and_true, true_and, implies_true, and_self, eq_self]
            refine kY _ ?_
            simp (disch := omega) only [pl_m1, pl_cc, pl_vc, pl_le8, pl_le32, pl_lt64, pl_lt1, pl_lt8, pl_lt32, nI_pos, nI_pos', vp_in_nI, nI_clamp, nI_1, nI_leI, nI_ltI, nI_eq, forall_eq, true_implies, forall_const, not_true_eq_false, not_false_eq_true, false_implies, and_true, true_and, implies_true, and_self, eq_self]
            exact pl_mk H'
        rcases pl_hd H hr with ⟨e, z⟩ | ⟨t1, lt1, f2, g2, e, et1, l11, l12, el, z⟩
        · have q : ¬ nI (S t) ≤ -1 := Int32.not_le.mpr (Int32.lt_of_lt_of_le (by decide : (-1 : Int32) < 0) (nI_pos' (by omega)))
          simp (disch := omega) only [wpX_read, wpX_isClient, wpX_isRow, hc, hc', hr, hr', p0, es, e, q, pl_nq, pl_cc, pl_vc, pl_le8, pl_le32, pl_lt64, pl_lt1, pl_lt8, pl_lt32, nI_pos, nI_pos', vp_in_nI, nI_clamp, nI_1, nI_leI, nI_ltI, nI_eq, forall_eq, true_implies, forall_const, not_true_eq_false, not_false_eq_true, false_implies, and_true, true_and, implies_true, and_self, eq_self]
          refine px_clear H hr (fun t' a b d _ _ _ => absurd d (z t' (by omega) b)) ?_
          intro xf' xh' yf' H' hh lk
          simp (disch := omega) only [pl_nq, pl_cc, pl_vc, pl_le8, pl_le32, pl_lt64, pl_lt1, pl_lt8, pl_lt32, nI_pos, nI_pos', vp_in_nI, nI_clamp, nI_1, nI_leI, nI_ltI, nI_eq, forall_eq, true_implies, forall_const, not_true_eq_false, not_false_eq_true, false_implies, and_true, true_and, implies_true, and_self, eq_self]
          refine tail xf' xh' yf' H' (fun post hp => ?_)
          rcases lk with ⟨e', _⟩ | ⟨t', a, b, d, _⟩
          · subst e'
            simp (disch := omega) only [wpY_read, wpY_badClient, wpY_badRow, hc, hc', hr, hr', p0, em, et, pl_nq, pl_cc, pl_vc, pl_le8, pl_le32, pl_lt64, pl_lt1, pl_lt8, pl_lt32, nI_pos, nI_pos', vp_in_nI, nI_clamp, nI_1, nI_leI, nI_ltI, nI_eq, forall_eq, true_implies, forall_const, not_true_eq_false, not_false_eq_true, false_implies, and_true, true_and, implies_true, and_self, eq_self]
            refine py_ho (by omega) (fun t' a b d => absurd d (z t' a b)) (fun _ => ?_)
            simp (disch := omega) only [pl_m1, pl_cc, pl_vc, pl_le8, pl_le32, pl_lt64, pl_lt1, pl_lt8, pl_lt32, nI_pos, nI_pos', vp_in_nI, nI_clamp, nI_1, nI_leI, nI_ltI, nI_eq, forall_eq, true_implies, forall_const, not_true_eq_false, not_false_eq_true, false_implies, and_true, true_and, implies_true, and_self, eq_self]
            exact hp
          · exact absurd d (z t' (by omega) b)
        · by_cases q : S t ≤ S t1
          · simp (disch := omega) only [wpX_read, wpX_isClient, wpX_isRow, hc, hc', hr, hr', p0, es, e, q, pl_nq, pl_cc, pl_vc, pl_le8, pl_le32, pl_lt64, pl_lt1, pl_lt8, pl_lt32, nI_pos, nI_pos', vp_in_nI, nI_clamp, nI_1, nI_leI, nI_ltI, nI_eq, forall_eq, true_implies, forall_const, not_true_eq_false, not_false_eq_true, false_implies, and_true, true_and, implies_true, and_self, eq_self]
            refine tail xf xh yf H (fun post hp => ?_)
            simp (disch := omega) only [wpY_read, wpY_badClient, wpY_badRow, hc, hc', hr, hr', p0, em, et, pl_nq, pl_cc, pl_vc, pl_le8, pl_le32, pl_lt64, pl_lt1, pl_lt8, pl_lt32, nI_pos, nI_pos', vp_in_nI, nI_clamp, nI_1, nI_leI, nI_ltI, nI_eq, forall_eq, true_implies, forall_const, not_true_eq_false, not_false_eq_true, false_implies, and_true, true_and, implies_true, and_self, eq_self]
            refine py_ho (by omega) (fun t' a b d => ?_) (fun z' => absurd g2 (z' t1 (by omega) f2))
            have n := z t' a b d
            subst n
            simp (disch := omega) only [et1, q, pl_cc, pl_vc, pl_le8, pl_le32, pl_lt64, pl_lt1, pl_lt8, pl_lt32, nI_pos, nI_pos', vp_in_nI, nI_clamp, nI_1, nI_leI, nI_ltI, nI_eq, forall_eq, true_implies, forall_const, not_true_eq_false, not_false_eq_true, false_implies, and_true, true_and, implies_true, and_self, eq_self]
            exact hp
          · simp (disch := omega) only [wpX_read, wpX_isClient, wpX_isRow, hc, hc', hr, hr', p0, es, e, q, pl_nq, pl_cc, pl_vc, pl_le8, pl_le32, pl_lt64, pl_lt1, pl_lt8, pl_lt32, nI_pos, nI_pos', vp_in_nI, nI_clamp, nI_1, nI_leI, nI_ltI, nI_eq, forall_eq, true_implies, forall_const, not_true_eq_false, not_false_eq_true, false_implies, and_true, true_and, implies_true, and_self, eq_self]
            refine px_clear H hr (fun t' a b d m e' z' => ?_) ?_
            · simp (disch := omega) only [wpY_read, wpY_badClient, wpY_badRow, hc, hc', hr, hr', p0, em, et, pl_nq, pl_cc, pl_vc, pl_le8, pl_le32, pl_lt64, pl_lt1, pl_lt8, pl_lt32, nI_pos, nI_pos', vp_in_nI, nI_clamp, nI_1, nI_leI, nI_ltI, nI_eq, forall_eq, true_implies, forall_const, not_true_eq_false, not_false_eq_true, false_implies, and_true, true_and, implies_true, and_self, eq_self]
              refine py_ho (by omega) (fun t2 a2 b2 d2 => ?_) (fun z2 => absurd g2 (z2 t1 (by omega) f2))
              have n := z t2 a2 b2 d2
              subst n
              have n := z' t2 a2 b2 d2
              subst n
              simp (disch := omega) only [et1, q, m, pl_cc, pl_vc, pl_le8, pl_le32, pl_lt64, pl_lt1, pl_lt8, pl_lt32, nI_pos, nI_pos', vp_in_nI, nI_clamp, nI_1, nI_leI, nI_ltI, nI_eq, forall_eq, true_implies, forall_const, not_true_eq_false, not_false_eq_true, false_implies, and_true, true_and, implies_true, and_self, eq_self]
              exact pl_mk H
            · intro xf' xh' yf' H' hh lk
              simp (disch := omega) only [pl_nq, pl_cc, pl_vc, pl_le8, pl_le32, pl_lt64, pl_lt1, pl_lt8, pl_lt32, nI_pos, nI_pos', vp_in_nI, nI_clamp, nI_1, nI_leI, nI_ltI, nI_eq, forall_eq, true_implies, forall_const, not_true_eq_false, not_false_eq_true, false_implies, and_true, true_and, implies_true, and_self, eq_self]
              refine tail xf' xh' yf' H' (fun post hp => ?_)
              rcases lk with ⟨_, z2⟩ | ⟨t', a, b, d, m, _, z2, e2⟩
              · exact absurd g2 (z2 t1 (by omega) f2)
              · subst e2
                simp (disch := omega) only [wpY_read, wpY_badClient, wpY_badRow, hc, hc', hr, hr', p0, em, et, pl_nq, pl_cc, pl_vc, pl_le8, pl_le32, pl_lt64, pl_lt1, pl_lt8, pl_lt32, nI_pos, nI_pos', vp_in_nI, nI_clamp, nI_1, nI_leI, nI_ltI, nI_eq, forall_eq, true_implies, forall_const, not_true_eq_false, not_false_eq_true, false_implies, and_true, true_and, implies_true, and_self, eq_self]
                refine py_ho (by omega) (fun t2 a2 b2 d2 => ?_) (fun z2 => absurd g2 (z2 t1 (by omega) f2))
                have n := z t2 a2 b2 d2
                subst n
                have n := z2 t2 a2 b2 d2
                subst n
                simp (disch := omega) only [et1, q, m, pl_cc, pl_vc, pl_le8, pl_le32, pl_lt64, pl_lt1, pl_lt8, pl_lt32, nI_pos, nI_pos', vp_in_nI, nI_clamp, nI_1, nI_leI, nI_ltI, nI_eq, forall_eq, true_implies, forall_const, not_true_eq_false, not_false_eq_true, false_implies, and_true, true_and, implies_true, and_self, eq_self]
                exact hp
end PLL
