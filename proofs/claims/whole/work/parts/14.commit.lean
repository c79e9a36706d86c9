section PLN
variable {nc nr nl nt ck bg : Nat} {S P M : Nat → Nat} {ph xs xp xq xg xv xf xl xc xh xw xz ym yf ys yp yq yl yg yv : Nat → Int32}
/-! what follows a row's commit, on both sides -/
theorem pc_end (H : pl_R nc nr nl nt ck bg S P M ph xs xp xq xg xv xf xl xc xh xw xz ym yf ys yp yq yl yg yv) {k c t : Nat} (hc : c < nc) (m1 : M c = t + 1) {Y : (Int32 → SY → Prop) → Prop}
    (hY : ∀ post : Int32 → SY → Prop, (∃ n, wY_commit_170 post (nI c) (nI t) (nI nc) (nI nr) (nI nl) (nI nt) (nI ck) (nI bg) ph ym yf ys yp yq yl yg yv n 1 0) → Y post) :
    wX_commit_97 (fun r u' => Y (fun r' v' => r' = r ∧ i_Rel (k + 4) u' v')) (nI c) 0 (nI nc) (nI nr) (nI nl) (nI nt) (nI ck) (nI bg) ph xs xp xq xg xv xf xl xc xh xw xz := by
  have hb := pl_b H
  have lt : t < bg := (H.2.2.2.2.2.2.2.2.2.1 c t (by omega) m1).1
  have eg : ∀ r, r < 8 → xg (c * 8 + r) = yg (t * 8 + r) := fun r hr => (H.2.2.2.2.2.2.2.2.2.2.2.1 c t r (by omega) m1 hr).1
  simp (disch := omega) only [wX_commit_97, pl_cc, pl_vc, pl_le8, pl_le32, pl_lt64, pl_lt1, pl_lt8, pl_lt32, nI_pos, nI_pos', vp_in_nI, nI_clamp, nI_1, nI_leI, nI_ltI, nI_eq, forall_eq, true_implies, forall_const, not_true_eq_false, not_false_eq_true, false_implies, and_true, true_and, implies_true, and_self, eq_self]
  refine px_wc (by omega) (by omega) (fun r lr a b => ?_) (fun hz => ?_)
  · simp (disch := omega) only [pl_cc, pl_vc, pl_le8, pl_le32, pl_lt64, pl_lt1, pl_lt8, pl_lt32, nI_pos, nI_pos', vp_in_nI, nI_clamp, nI_1, nI_leI, nI_ltI, nI_eq, forall_eq, true_implies, forall_const, not_true_eq_false, not_false_eq_true, false_implies, and_true, true_and, implies_true, and_self, eq_self]
    refine hY _ (py_cm (by omega) (by omega) (fun _ _ _ _ => ⟨rfl, pl_mk H⟩) (fun z => ?_))
    rw [eg r (by omega)] at a b
    rcases z r (by omega) with y | y
    · exact absurd y a
    · exact absurd y b
  · simp (disch := omega) only [pl_nq, pl_cc, pl_vc, pl_le8, pl_le32, pl_lt64, pl_lt1, pl_lt8, pl_lt32, nI_pos, nI_pos', vp_in_nI, nI_clamp, nI_1, nI_leI, nI_ltI, nI_eq, forall_eq, true_implies, forall_const, not_true_eq_false, not_false_eq_true, false_implies, and_true, true_and, implies_true, and_self, eq_self]
    refine px_idle (by omega) ?_
    refine hY _ (py_cm (by omega) (by omega) (fun r lr a b => ?_) (fun z => ⟨rfl, pl_mk (pl_idle H (by omega))⟩))
    by_cases l : r < nr
    · rcases hz r l with y | y
      · rw [eg r lr] at y; exact absurd y a
      · rw [eg r lr] at y; exact absurd y b
    · exact absurd (H.2.2.2.2.2.2.1 t r (by omega) (by omega) lr) a
theorem i_vc_commit {k : Nat} {u : SX} {v : SY} (I : i_Rel k u v) (hk : k + 4 ≤ 2052) (v1 : Int32) (v2 : Int32) : wpX_commit (fun r u' => wpY_commit (fun r' v' => r' = r ∧ i_Rel (k + 4) u' v') v v1 v2) u v1 v2 := by
  obtain ⟨nc, nr, nl, nt, ck, bg, S, P, M, ph, xs, xp, xq, xg, xv, xf, xl, xc, xh, xw, xz, ym, yf, ys, yp, yq, yl, yg, yv, rfl, rfl, H⟩ := I
  have hb := pl_b H
  rcases pl_ix v1 (n := nc) (by omega) with h | ⟨h, h', h''⟩ | ⟨c, hc, rfl⟩
  · simp (disch := omega) only [wpX_commit, wpX_isClient, wpY_commit, wpY_badClient, h, pl_nq, pl_cc, pl_vc, pl_le8, pl_le32, pl_lt64, pl_lt1, pl_lt8, pl_lt32, nI_pos, nI_pos', vp_in_nI, nI_clamp, nI_1, nI_leI, nI_ltI, nI_eq, forall_eq, true_implies, forall_const, not_true_eq_false, not_false_eq_true, false_implies, and_true, true_and, implies_true, and_self, eq_self]
    exact pl_mk H
  · simp (disch := omega) only [wpX_commit, wpX_isClient, wpY_commit, wpY_badClient, h, h', h'', pl_nq, pl_cc, pl_vc, pl_le8, pl_le32, pl_lt64, pl_lt1, pl_lt8, pl_lt32, nI_pos, nI_pos', vp_in_nI, nI_clamp, nI_1, nI_leI, nI_ltI, nI_eq, forall_eq, true_implies, forall_const, not_true_eq_false, not_false_eq_true, false_implies, and_true, true_and, implies_true, and_self, eq_self]
    exact pl_mk H
  · have hc' : ¬ nc ≤ c := by omega
    rcases pl_ix v2 (n := nr) (by omega) with h | ⟨h, h', h''⟩ | ⟨r, hr, rfl⟩
    · simp (disch := omega) only [wpX_commit, wpX_isClient, wpX_isRow, wpY_commit, wpY_badClient, wpY_badRow, hc, hc', h, pl_nq, pl_cc, pl_vc, pl_le8, pl_le32, pl_lt64, pl_lt1, pl_lt8, pl_lt32, nI_pos, nI_pos', vp_in_nI, nI_clamp, nI_1, nI_leI, nI_ltI, nI_eq, forall_eq, true_implies, forall_const, not_true_eq_false, not_false_eq_true, false_implies, and_true, true_and, implies_true, and_self, eq_self]
      exact pl_mk H
    · simp (disch := omega) only [wpX_commit, wpX_isClient, wpX_isRow, wpY_commit, wpY_badClient, wpY_badRow, hc, hc', h, h', h'', pl_nq, pl_cc, pl_vc, pl_le8, pl_le32, pl_lt64, pl_lt1, pl_lt8, pl_lt32, nI_pos, nI_pos', vp_in_nI, nI_clamp, nI_1, nI_leI, nI_ltI, nI_eq, forall_eq, true_implies, forall_const, not_true_eq_false, not_false_eq_true, false_implies, and_true, true_and, implies_true, and_self, eq_self]
      exact pl_mk H
    · have hr' : ¬ nr ≤ r := by omega
      rcases pl_cl H (c := c) (by omega) with ⟨m0, p0, _⟩ | ⟨t, m1, lt, p0, em, es, et, l1, l2, ef, ok, eq, eq', eg, ep, ep', lp⟩
      · simp (disch := omega) only [wpX_commit, wpX_isClient, wpX_isRow, wpY_commit, wpY_badClient, wpY_badRow, hc, hc', hr, hr', p0, pl_nq, pl_cc, pl_vc, pl_le8, pl_le32, pl_lt64, pl_lt1, pl_lt8, pl_lt32, nI_pos, nI_pos', vp_in_nI, nI_clamp, nI_1, nI_leI, nI_ltI, nI_eq, forall_eq, true_implies, forall_const, not_true_eq_false, not_false_eq_true, false_implies, and_true, true_and, implies_true, and_self, eq_self]
        exact pl_mk H
      · by_cases p1 : ph c = 1
        · simp (disch := omega) only [wpX_commit, wpX_isClient, wpX_isRow, wpY_commit, wpY_badClient, wpY_badRow, hc, hc', hr, hr', p1, pl_nq, pl_cc, pl_vc, pl_le8, pl_le32, pl_lt64, pl_lt1, pl_lt8, pl_lt32, nI_pos, nI_pos', vp_in_nI, nI_clamp, nI_1, nI_leI, nI_ltI, nI_eq, forall_eq, true_implies, forall_const, not_true_eq_false, not_false_eq_true, false_implies, and_true, true_and, implies_true, and_self, eq_self]
          exact pl_mk H
        · by_cases p2 : ph c = 2
          · simp (disch := omega) only [wpX_commit, wpX_isClient, wpX_isRow, wpY_commit, wpY_badClient, wpY_badRow, hc, hc', hr, hr', p2, pl_nq, pl_cc, pl_vc, pl_le8, pl_le32, pl_lt64, pl_lt1, pl_lt8, pl_lt32, nI_pos, nI_pos', vp_in_nI, nI_clamp, nI_1, nI_leI, nI_ltI, nI_eq, forall_eq, true_implies, forall_const, not_true_eq_false, not_false_eq_true, false_implies, and_true, true_and, implies_true, and_self, eq_self]
            exact pl_mk H
          · have e0 := (eg r (by omega)).1
            by_cases g0 : yg (t * 8 + r) = 0
            · simp (disch := omega) only [wpX_commit, wpX_isClient, wpX_isRow, wpX_clientCell, wpY_commit, wpY_badClient, wpY_badRow, hc, hc', hr, hr', p0, p1, p2, em, e0, g0, pl_nq, pl_cc, pl_vc, pl_le8, pl_le32, pl_lt64, pl_lt1, pl_lt8, pl_lt32, nI_pos, nI_pos', vp_in_nI, nI_clamp, nI_1, nI_leI, nI_ltI, nI_eq, forall_eq, true_implies, forall_const, not_true_eq_false, not_false_eq_true, false_implies, and_true, true_and, implies_true, and_self, eq_self]
              exact pl_mk H
            · by_cases p3 : ph c = 3
              · by_cases eq1 : yq t = nI r
                · by_cases f4 : yf t = 4
                  · simp (disch := omega) only [wpX_commit, wpX_isClient, wpX_isRow, wpX_clientCell, wpX_commitWhenStamped, hc, hc', hr, hr', p3, e0, g0, eq, eq1, es, ef, f4, pl_nq, pl_cc, pl_vc, pl_le8, pl_le32, pl_lt64, pl_lt1, pl_lt8, pl_lt32, nI_pos, nI_pos', vp_in_nI, nI_clamp, nI_1, nI_leI, nI_ltI, nI_eq, forall_eq, true_implies, forall_const, not_true_eq_false, not_false_eq_true, false_implies, and_true, true_and, implies_true, and_self, eq_self]
                    refine px_idle (by omega) ?_
                    simp (disch := omega) only [wX_commit_97, pl_nq, pl_cc, pl_vc, pl_le8, pl_le32, pl_lt64, pl_lt1, pl_lt8, pl_lt32, nI_pos, nI_pos', vp_in_nI, nI_clamp, nI_1, nI_leI, nI_ltI, nI_eq, forall_eq, true_implies, forall_const, not_true_eq_false, not_false_eq_true, false_implies, and_true, true_and, implies_true, and_self, eq_self]
                    simp (disch := omega) only [wpY_commit, wpY_badClient, wpY_badRow, hc, hc', hr, hr', p3, em, g0, eq1, f4, pl_nq, pl_cc, pl_vc, pl_le8, pl_le32, pl_lt64, pl_lt1, pl_lt8, pl_lt32, nI_pos, nI_pos', vp_in_nI, nI_clamp, nI_1, nI_leI, nI_ltI, nI_eq, forall_eq, true_implies, forall_const, not_true_eq_false, not_false_eq_true, false_implies, and_true, true_and, implies_true, and_self, eq_self]
                    exact pl_mk (pl_idle H (c := c) (by omega))
                  · obtain ⟨of, oP⟩ := pl_ok3 ok p3
                    have f2 : yf t = 2 := of.elim id (fun y => absurd y f4)
                    rw [if_neg oP] at ep
                    simp (disch := omega) only [wpX_commit, wpX_isClient, wpX_isRow, wpX_clientCell, wpX_commitWhenStamped, hc, hc', hr, hr', p3, e0, g0, eq, eq1, es, ef, f4, ep, pl_nq, pl_cc, pl_vc, pl_le8, pl_le32, pl_lt64, pl_lt1, pl_lt8, pl_lt32, nI_pos, nI_pos', vp_in_nI, nI_clamp, nI_1, nI_leI, nI_ltI, nI_eq, forall_eq, true_implies, forall_const, not_true_eq_false, not_false_eq_true, false_implies, and_true, true_and, implies_true, and_self, eq_self]
                    refine px_av (by omega) (by omega) lp ep (fun w z hA => ?_)
                    refine px_eh (by omega) ?_
                    simp (disch := omega) only [pl_cc, pl_vc, pl_le8, pl_le32, pl_lt64, pl_lt1, pl_lt8, pl_lt32, nI_pos, nI_pos', vp_in_nI, nI_clamp, nI_1, nI_leI, nI_ltI, nI_eq, forall_eq, true_implies, forall_const, not_true_eq_false, not_false_eq_true, false_implies, and_true, true_and, implies_true, and_self, eq_self]
                    have H1 := pl_comm H (c := c) (by omega) m1 p3 f2 hA.1 hA.2
                    have H2 := pl_stg H1 (c := c) (x := 3) (by omega) m1 (by rw [pl_us]; decide) (by rw [pl_us]; decide) hr g0 (by decide)
                    refine pc_end H2 hc m1 (Y := fun post => wpY_commit post (nI nc, nI nr, nI nl, nI nt, nI ck, nI bg, ph, ym, yf, ys, yp, yq, yl, yg, yv) (nI c) (nI r)) (fun post hp => ?_)
                    simp (disch := omega) only [wpY_commit, wpY_badClient, wpY_badRow, wY_commit_156, hc, hc', hr, hr', p3, em, g0, eq1, f4, pl_nq, pl_cc, pl_vc, pl_le8, pl_le32, pl_lt64, pl_lt1, pl_lt8, pl_lt32, nI_pos, nI_pos', vp_in_nI, nI_clamp, nI_1, nI_leI, nI_ltI, nI_eq, forall_eq, true_implies, forall_const, not_true_eq_false, not_false_eq_true, false_implies, and_true, true_and, implies_true, and_self, eq_self]
                    exact hp
                · have ne1 : ¬ nI r = yq t := fun y => eq1 y.symm
                  simp (disch := omega) only [wpX_commit, wpX_isClient, wpX_isRow, wpX_clientCell, wpX_commitWhenStamped, wX_commit_97, hc, hc', hr, hr', p3, e0, g0, eq, ne1, pl_nq, pl_cc, pl_vc, pl_le8, pl_le32, pl_lt64, pl_lt1, pl_lt8, pl_lt32, nI_pos, nI_pos', vp_in_nI, nI_clamp, nI_1, nI_leI, nI_ltI, nI_eq, forall_eq, true_implies, forall_const, not_true_eq_false, not_false_eq_true, false_implies, and_true, true_and, implies_true, and_self, eq_self]
                  simp (disch := omega) only [wpY_commit, wpY_badClient, wpY_badRow, hc, hc', hr, hr', p3, em, g0, ne1, pl_nq, pl_cc, pl_vc, pl_le8, pl_le32, pl_lt64, pl_lt1, pl_lt8, pl_lt32, nI_pos, nI_pos', vp_in_nI, nI_clamp, nI_1, nI_leI, nI_ltI, nI_eq, forall_eq, true_implies, forall_const, not_true_eq_false, not_false_eq_true, false_implies, and_true, true_and, implies_true, and_self, eq_self]
                  exact pl_mk H
              · have p4 : ph c = 4 := by
                  unfold pl_ok at ok
                  rcases ok with z | z | z | z
                  · exact absurd z.1 p1
                  · exact absurd z.1 p2
                  · exact absurd z.1 p3
                  · exact z.1
                have f3 := pl_ok4 ok p4
                by_cases g3 : yg (t * 8 + r) = 3
                · simp (disch := omega) only [wpX_commit, wpX_isClient, wpX_isRow, wpX_clientCell, wpX_commitWhenCommitted, wX_commit_97, hc, hc', hr, hr', p0, p1, p2, p3, e0, g3, pl_nq, pl_cc, pl_vc, pl_le8, pl_le32, pl_lt64, pl_lt1, pl_lt8, pl_lt32, nI_pos, nI_pos', vp_in_nI, nI_clamp, nI_1, nI_leI, nI_ltI, nI_eq, forall_eq, true_implies, forall_const, not_true_eq_false, not_false_eq_true, false_implies, and_true, true_and, implies_true, and_self, eq_self]
                  simp (disch := omega) only [wpY_commit, wpY_badClient, wpY_badRow, hc, hc', hr, hr', p0, p1, p2, p3, em, g3, pl_nq, pl_cc, pl_vc, pl_le8, pl_le32, pl_lt64, pl_lt1, pl_lt8, pl_lt32, nI_pos, nI_pos', vp_in_nI, nI_clamp, nI_1, nI_leI, nI_ltI, nI_eq, forall_eq, true_implies, forall_const, not_true_eq_false, not_false_eq_true, false_implies, and_true, true_and, implies_true, and_self, eq_self]
                  exact pl_mk H
                · simp (disch := omega) only [wpX_commit, wpX_isClient, wpX_isRow, wpX_clientCell, wpX_commitWhenCommitted, hc, hc', hr, hr', p0, p1, p2, p3, e0, g0, g3, pl_nq, pl_cc, pl_vc, pl_le8, pl_le32, pl_lt64, pl_lt1, pl_lt8, pl_lt32, nI_pos, nI_pos', vp_in_nI, nI_clamp, nI_1, nI_leI, nI_ltI, nI_eq, forall_eq, true_implies, forall_const, not_true_eq_false, not_false_eq_true, false_implies, and_true, true_and, implies_true, and_self, eq_self]
                  have H2 := pl_stg H (c := c) (x := 3) (by omega) m1 p1 (by rw [f3]; decide) hr g0 (by decide)
                  refine pc_end H2 hc m1 (Y := fun post => wpY_commit post (nI nc, nI nr, nI nl, nI nt, nI ck, nI bg, ph, ym, yf, ys, yp, yq, yl, yg, yv) (nI c) (nI r)) (fun post hp => ?_)
                  simp (disch := omega) only [wpY_commit, wpY_badClient, wpY_badRow, wY_commit_156, hc, hc', hr, hr', p0, p1, p2, p3, em, g0, g3, pl_nq, pl_cc, pl_vc, pl_le8, pl_le32, pl_lt64, pl_lt1, pl_lt8, pl_lt32, nI_pos, nI_pos', vp_in_nI, nI_clamp, nI_1, nI_leI, nI_ltI, nI_eq, forall_eq, true_implies, forall_const, not_true_eq_false, not_false_eq_true, false_implies, and_true, true_and, implies_true, and_self, eq_self]
                  exact hp
end PLN
