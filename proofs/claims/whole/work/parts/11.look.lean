section PLK
variable {nc nr nl nt ck bg : Nat} {S P M : Nat → Nat} {ph xs xp xq xg xv xf xl xc xh xw xz ym yf ys yp yq yl yg yv : Nat → Int32}
theorem pl_lk5 : (¬ (4 : Int32) < 0) ∧ ((4 : Int32) ≤ 5) ∧ (¬ (5 : Int32) < 0) ∧ ((5 : Int32) ≤ 5) ∧ (¬ (5 : Int32) = 4) ∧ (¬ (5 : Int32) = 0) ∧ (¬ (5 : Int32) = 1) ∧ (¬ (5 : Int32) = 2) ∧ (¬ (5 : Int32) = 3) := by decide
theorem i_vc_look {k : Nat} {u : SX} {v : SY} (I : i_Rel k u v) (hk : k + 4 ≤ 2052) (v1 : Int32) (v2 : Int32) (v3 : Int32) : wpX_look (fun r => wpY_look (fun r' => r' = r ∧ i_Rel (k + 4) u v) v v1 v2 v3) u v1 v2 v3 := by
  obtain ⟨nc, nr, nl, nt, ck, bg, S, P, M, ph, xs, xp, xq, xg, xv, xf, xl, xc, xh, xw, xz, ym, yf, ys, yp, yq, yl, yg, yv, rfl, rfl, H⟩ := I
  have hb := pl_b H
  rcases pl_ix v1 (n := nc) (by omega) with h | ⟨h, h', h''⟩ | ⟨c, hc, rfl⟩
  · simp (disch := omega) only [wpX_look, wpX_isClient, wpY_look, wpY_badClient, h, pl_nq, pl_cc, pl_vc, pl_le8, pl_le32, pl_lt64, pl_lt1, pl_lt8, pl_lt32, nI_pos, nI_pos', vp_in_nI, nI_clamp, nI_1, nI_leI, nI_ltI, nI_eq, forall_eq, true_implies, forall_const, not_true_eq_false, not_false_eq_true, false_implies, and_true, true_and, implies_true, and_self, eq_self]
    exact pl_mk H
  · simp (disch := omega) only [wpX_look, wpX_isClient, wpY_look, wpY_badClient, h, h', h'', pl_nq, pl_cc, pl_vc, pl_le8, pl_le32, pl_lt64, pl_lt1, pl_lt8, pl_lt32, nI_pos, nI_pos', vp_in_nI, nI_clamp, nI_1, nI_leI, nI_ltI, nI_eq, forall_eq, true_implies, forall_const, not_true_eq_false, not_false_eq_true, false_implies, and_true, true_and, implies_true, and_self, eq_self]
    exact pl_mk H
  · have hc' : ¬ nc ≤ c := by omega
    have hcl := pl_cl H (c := c) (by omega)
    by_cases w4 : v2 = 4
    · subst w4
      rcases pl_ix v3 (n := nr) (by omega) with h | ⟨h, h', h''⟩ | ⟨r, hr, rfl⟩
      · simp (disch := omega) only [wpX_look, wpX_isClient, wX_look_30, wpX_isRow, wpY_look, wpY_badClient, wY_look_30, wpY_badRow, hc, hc', h, pl_lk5, pl_nq, pl_cc, pl_vc, pl_le8, pl_le32, pl_lt64, pl_lt1, pl_lt8, pl_lt32, nI_pos, nI_pos', vp_in_nI, nI_clamp, nI_1, nI_leI, nI_ltI, nI_eq, forall_eq, true_implies, forall_const, not_true_eq_false, not_false_eq_true, false_implies, and_true, true_and, implies_true, and_self, eq_self]
        exact pl_mk H
      · simp (disch := omega) only [wpX_look, wpX_isClient, wX_look_30, wpX_isRow, wpY_look, wpY_badClient, wY_look_30, wpY_badRow, hc, hc', h, h', h'', pl_lk5, pl_nq, pl_cc, pl_vc, pl_le8, pl_le32, pl_lt64, pl_lt1, pl_lt8, pl_lt32, nI_pos, nI_pos', vp_in_nI, nI_clamp, nI_1, nI_leI, nI_ltI, nI_eq, forall_eq, true_implies, forall_const, not_true_eq_false, not_false_eq_true, false_implies, and_true, true_and, implies_true, and_self, eq_self]
        exact pl_mk H
      · have hr' : ¬ nr ≤ r := by omega
        rcases hcl with ⟨m0, p0, e1, e2, e3, e4⟩ | ⟨t, m1, lt, p0, em, es, et, l1, l2, ef, ok, eq, eq', eg, ep, ep', _⟩
        · have g0 := e4 r (by omega)
          simp (disch := omega) only [wpX_look, wpX_isClient, wX_look_30, wpX_isRow, wpX_lookAtRow, wpX_clientCell, wpY_look, wpY_badClient, wY_look_30, wY_look_41, wpY_badRow, hc, hc', hr, hr', p0, g0, pl_lk5, pl_nq, pl_cc, pl_vc, pl_le8, pl_le32, pl_lt64, pl_lt1, pl_lt8, pl_lt32, nI_pos, nI_pos', vp_in_nI, nI_clamp, nI_1, nI_leI, nI_ltI, nI_eq, forall_eq, true_implies, forall_const, not_true_eq_false, not_false_eq_true, false_implies, and_true, true_and, implies_true, and_self, eq_self]
          exact pl_mk H
        · have g0 := (eg r (by omega)).1
          simp (disch := omega) only [wpX_look, wpX_isClient, wX_look_30, wpX_isRow, wpX_lookAtRow, wpX_clientCell, wpY_look, wpY_badClient, wY_look_30, wY_look_41, wpY_badRow, hc, hc', hr, hr', p0, em, g0, pl_lk5, pl_nq, pl_cc, pl_vc, pl_le8, pl_le32, pl_lt64, pl_lt1, pl_lt8, pl_lt32, nI_pos, nI_pos', vp_in_nI, nI_clamp, nI_1, nI_leI, nI_ltI, nI_eq, forall_eq, true_implies, forall_const, not_true_eq_false, not_false_eq_true, false_implies, and_true, true_and, implies_true, and_self, eq_self]
          exact pl_mk H
    · by_cases w5 : v2 = 5
      · subst w5
        rcases pl_ix v3 (n := nr) (by omega) with h | ⟨h, h', h''⟩ | ⟨r, hr, rfl⟩
        · simp (disch := omega) only [wpX_look, wpX_isClient, wX_look_30, wpX_isRow, wpY_look, wpY_badClient, wY_look_30, wpY_badRow, hc, hc', h, pl_lk5, pl_nq, pl_cc, pl_vc, pl_le8, pl_le32, pl_lt64, pl_lt1, pl_lt8, pl_lt32, nI_pos, nI_pos', vp_in_nI, nI_clamp, nI_1, nI_leI, nI_ltI, nI_eq, forall_eq, true_implies, forall_const, not_true_eq_false, not_false_eq_true, false_implies, and_true, true_and, implies_true, and_self, eq_self]
          exact pl_mk H
        · simp (disch := omega) only [wpX_look, wpX_isClient, wX_look_30, wpX_isRow, wpY_look, wpY_badClient, wY_look_30, wpY_badRow, hc, hc', h, h', h'', pl_lk5, pl_nq, pl_cc, pl_vc, pl_le8, pl_le32, pl_lt64, pl_lt1, pl_lt8, pl_lt32, nI_pos, nI_pos', vp_in_nI, nI_clamp, nI_1, nI_leI, nI_ltI, nI_eq, forall_eq, true_implies, forall_const, not_true_eq_false, not_false_eq_true, false_implies, and_true, true_and, implies_true, and_self, eq_self]
          exact pl_mk H
        · have hr' : ¬ nr ≤ r := by omega
          rcases hcl with ⟨m0, p0, e1, e2, e3, e4⟩ | ⟨t, m1, lt, p0, em, es, et, l1, l2, ef, ok, eq, eq', eg, ep, ep', _⟩
          · have g0 := e4 r (by omega)
            simp (disch := omega) only [wpX_look, wpX_isClient, wX_look_30, wpX_isRow, wpX_lookAtRow, wpX_clientCell, wpY_look, wpY_badClient, wY_look_30, wY_look_41, wpY_badRow, hc, hc', hr, hr', p0, g0, pl_lk5, pl_nq, pl_cc, pl_vc, pl_le8, pl_le32, pl_lt64, pl_lt1, pl_lt8, pl_lt32, nI_pos, nI_pos', vp_in_nI, nI_clamp, nI_1, nI_leI, nI_ltI, nI_eq, forall_eq, true_implies, forall_const, not_true_eq_false, not_false_eq_true, false_implies, and_true, true_and, implies_true, and_self, eq_self]
            exact pl_mk H
          · have g0 := (eg r (by omega)).1
            by_cases z : yg (t * 8 + r) = 0
            · simp (disch := omega) only [wpX_look, wpX_isClient, wX_look_30, wpX_isRow, wpX_lookAtRow, wpX_clientCell, wpY_look, wpY_badClient, wY_look_30, wY_look_41, wpY_badRow, hc, hc', hr, hr', p0, em, g0, z, pl_lk5, pl_nq, pl_cc, pl_vc, pl_le8, pl_le32, pl_lt64, pl_lt1, pl_lt8, pl_lt32, nI_pos, nI_pos', vp_in_nI, nI_clamp, nI_1, nI_leI, nI_ltI, nI_eq, forall_eq, true_implies, forall_const, not_true_eq_false, not_false_eq_true, false_implies, and_true, true_and, implies_true, and_self, eq_self]
              exact pl_mk H
            · have g1 := (eg r (by omega)).2 z
              simp (disch := omega) only [wpX_look, wpX_isClient, wX_look_30, wpX_isRow, wpX_lookAtRow, wpX_clientCell, wpY_look, wpY_badClient, wY_look_30, wY_look_41, wpY_badRow, hc, hc', hr, hr', p0, em, g0, g1, z, pl_lk5, pl_nq, pl_cc, pl_vc, pl_le8, pl_le32, pl_lt64, pl_lt1, pl_lt8, pl_lt32, nI_pos, nI_pos', vp_in_nI, nI_clamp, nI_1, nI_leI, nI_ltI, nI_eq, forall_eq, true_implies, forall_const, not_true_eq_false, not_false_eq_true, false_implies, and_true, true_and, implies_true, and_self, eq_self]
              exact pl_mk H
      · by_cases w6 : v2 < 0
        · simp (disch := omega) only [wpX_look, wpX_isClient, wpY_look, wpY_badClient, hc, hc', w6, pl_nq, pl_cc, pl_vc, pl_le8, pl_le32, pl_lt64, pl_lt1, pl_lt8, pl_lt32, nI_pos, nI_pos', vp_in_nI, nI_clamp, nI_1, nI_leI, nI_ltI, nI_eq, forall_eq, true_implies, forall_const, not_true_eq_false, not_false_eq_true, false_implies, and_true, true_and, implies_true, and_self, eq_self]
          exact pl_mk H
        · by_cases w7 : v2 ≤ 5
          · by_cases w0 : v2 = 0
            · simp (disch := omega) only [wpX_look, wpX_isClient, wpY_look, wpY_badClient, wY_look_41, hc, hc', w4, w5, w6, w7, w0, pl_nq, pl_cc, pl_vc, pl_le8, pl_le32, pl_lt64, pl_lt1, pl_lt8, pl_lt32, nI_pos, nI_pos', vp_in_nI, nI_clamp, nI_1, nI_leI, nI_ltI, nI_eq, forall_eq, true_implies, forall_const, not_true_eq_false, not_false_eq_true, false_implies, and_true, true_and, implies_true, and_self, eq_self]
              exact pl_mk H
            · rcases hcl with ⟨m0, p0, e1, e2, e3, e4⟩ | ⟨t, m1, lt, p0, em, es, et, l1, l2, ef, ok, eq, eq', eg, ep, ep', lp⟩
              · by_cases w1 : v2 = 1
                · simp (disch := omega) only [wpX_look, wpX_isClient, wpY_look, wpY_badClient, wY_look_41, hc, hc', w4, w5, w6, w7, w0, w1, p0, e1, pl_cc, pl_vc, pl_le8, pl_le32, pl_lt64, pl_lt1, pl_lt8, pl_lt32, nI_pos, nI_pos', vp_in_nI, nI_clamp, nI_1, nI_leI, nI_ltI, nI_eq, forall_eq, true_implies, forall_const, not_true_eq_false, not_false_eq_true, false_implies, and_true, true_and, implies_true, and_self, eq_self]
                  exact pl_mk H
                · by_cases w2 : v2 = 2
                  · simp (disch := omega) only [wpX_look, wpX_isClient, wpY_look, wpY_badClient, wY_look_41, hc, hc', w4, w5, w6, w7, w0, w1, w2, p0, e2, pl_cc, pl_vc, pl_le8, pl_le32, pl_lt64, pl_lt1, pl_lt8, pl_lt32, nI_pos, nI_pos', vp_in_nI, nI_clamp, nI_1, nI_leI, nI_ltI, nI_eq, forall_eq, true_implies, forall_const, not_true_eq_false, not_false_eq_true, false_implies, and_true, true_and, implies_true, and_self, eq_self]
                    exact pl_mk H
                  · simp (disch := omega) only [wpX_look, wpX_isClient, wpY_look, wpY_badClient, wY_look_41, hc, hc', w4, w5, w6, w7, w0, w1, w2, p0, e3, pl_cc, pl_vc, pl_le8, pl_le32, pl_lt64, pl_lt1, pl_lt8, pl_lt32, nI_pos, nI_pos', vp_in_nI, nI_clamp, nI_1, nI_leI, nI_ltI, nI_eq, forall_eq, true_implies, forall_const, not_true_eq_false, not_false_eq_true, false_implies, and_true, true_and, implies_true, and_self, eq_self]
                    exact pl_mk H
              · by_cases w1 : v2 = 1
                · simp (disch := omega) only [wpX_look, wpX_isClient, wpY_look, wpY_badClient, wY_look_41, hc, hc', w4, w5, w6, w7, w0, w1, p0, em, es, et, pl_cc, pl_vc, pl_le8, pl_le32, pl_lt64, pl_lt1, pl_lt8, pl_lt32, nI_pos, nI_pos', vp_in_nI, nI_clamp, nI_1, nI_leI, nI_ltI, nI_eq, forall_eq, true_implies, forall_const, not_true_eq_false, not_false_eq_true, false_implies, and_true, true_and, implies_true, and_self, eq_self]
                  exact pl_mk H
                · by_cases w2 : v2 = 2
                  · by_cases z : P t = 0
                    · rw [if_pos z] at ep
                      rw [z, nI_0] at ep'
                      simp (disch := omega) only [wpX_look, wpX_isClient, wpY_look, wpY_badClient, wY_look_41, hc, hc', w4, w5, w6, w7, w0, w1, w2, p0, em, ep, ep', pl_cc, pl_vc, pl_le8, pl_le32, pl_lt64, pl_lt1, pl_lt8, pl_lt32, nI_pos, nI_pos', vp_in_nI, nI_clamp, nI_1, nI_leI, nI_ltI, nI_eq, forall_eq, true_implies, forall_const, not_true_eq_false, not_false_eq_true, false_implies, and_true, true_and, implies_true, and_self, eq_self]
                      exact pl_mk H
                    · rw [if_neg z] at ep
                      have nz : ¬ nI (P t) = 0 := nI_ne0 (by omega) (by omega)
                      simp (disch := omega) only [wpX_look, wpX_isClient, wpY_look, wpY_badClient, wY_look_41, hc, hc', w4, w5, w6, w7, w0, w1, w2, p0, em, ep, ep', nz, pl_cc, pl_vc, pl_le8, pl_le32, pl_lt64, pl_lt1, pl_lt8, pl_lt32, nI_pos, nI_pos', vp_in_nI, nI_clamp, nI_1, nI_leI, nI_ltI, nI_eq, forall_eq, true_implies, forall_const, not_true_eq_false, not_false_eq_true, false_implies, and_true, true_and, implies_true, and_self, eq_self]
                      exact pl_mk H
                  · have w3 : v2 = 3 := by
                      obtain ⟨j, hj, rfl⟩ := nI_of2 (n := 5) (by decide) w6 w7
                      have a0 : ¬ j = 0 := fun y => w0 (by rw [y]; decide)
                      have a1 : ¬ j = 1 := fun y => w1 (by rw [y]; decide)
                      have a2 : ¬ j = 2 := fun y => w2 (by rw [y]; decide)
                      have a4 : ¬ j = 4 := fun y => w4 (by rw [y]; decide)
                      have a5 : ¬ j = 5 := fun y => w5 (by rw [y]; decide)
                      have a3 : j = 3 := by omega
                      rw [a3]
                      decide
                    rcases eq' with y | y
                    · have y0 : ¬ (0 : Int32) ≤ yq t := by rw [y]; decide
                      simp (disch := omega) only [wpX_look, wpX_isClient, wpY_look, wpY_badClient, wY_look_41, hc, hc', w4, w5, w6, w7, w0, w1, w2, p0, em, eq, y0, pl_cc, pl_vc, pl_le8, pl_le32, pl_lt64, pl_lt1, pl_lt8, pl_lt32, nI_pos, nI_pos', vp_in_nI, nI_clamp, nI_1, nI_leI, nI_ltI, nI_eq, forall_eq, true_implies, forall_const, not_true_eq_false, not_false_eq_true, false_implies, and_true, true_and, implies_true, and_self, eq_self]
                      simp only [w3, eq, y, y0, pl_cc, pl_vc, pl_le8, pl_le32, pl_lt64, pl_lt1, pl_lt8, pl_lt32, nI_pos, nI_pos', vp_in_nI, nI_clamp, nI_1, nI_leI, nI_ltI, nI_eq, forall_eq, true_implies, forall_const, not_true_eq_false, not_false_eq_true, false_implies, and_true, true_and, implies_true, and_self, eq_self]
                      exact pl_mk H
                    · have y0 : (0 : Int32) ≤ yq t := Int32.not_lt.mp y
                      simp (disch := omega) only [wpX_look, wpX_isClient, wpY_look, wpY_badClient, wY_look_41, hc, hc', w4, w5, w6, w7, w0, w1, w2, p0, em, eq, y0, pl_cc, pl_vc, pl_le8, pl_le32, pl_lt64, pl_lt1, pl_lt8, pl_lt32, nI_pos, nI_pos', vp_in_nI, nI_clamp, nI_1, nI_leI, nI_ltI, nI_eq, forall_eq, true_implies, forall_const, not_true_eq_false, not_false_eq_true, false_implies, and_true, true_and, implies_true, and_self, eq_self]
                      simp only [w3, eq, y0, pl_cc, pl_vc, pl_le8, pl_le32, pl_lt64, pl_lt1, pl_lt8, pl_lt32, nI_pos, nI_pos', vp_in_nI, nI_clamp, nI_1, nI_leI, nI_ltI, nI_eq, forall_eq, true_implies, forall_const, not_true_eq_false, not_false_eq_true, false_implies, and_true, true_and, implies_true, and_self, eq_self]
                      exact pl_mk H
          · simp (disch := omega) only [wpX_look, wpX_isClient, wpY_look, wpY_badClient, hc, hc', w6, w7, pl_nq, pl_cc, pl_vc, pl_le8, pl_le32, pl_lt64, pl_lt1, pl_lt8, pl_lt32, nI_pos, nI_pos', vp_in_nI, nI_clamp, nI_1, nI_leI, nI_ltI, nI_eq, forall_eq, true_implies, forall_const, not_true_eq_false, not_false_eq_true, false_implies, and_true, true_and, implies_true, and_self, eq_self]
            exact pl_mk H
end PLK
