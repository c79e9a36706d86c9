section PLK
variable {nc nr nl nt ck bg : Nat} {S P M : Nat → Nat} {ph xs xp xq xg xv xf xl xc xh xw xz ym yf ys yp yq yl yg yv : Nat → Int32}
theorem pl_lk5 : (¬ (0 : Int32) < 0) ∧ ((0 : Int32) ≤ 5) ∧ (¬ (1 : Int32) < 0) ∧ ((1 : Int32) ≤ 5) ∧ (¬ (2 : Int32) < 0) ∧ ((2 : Int32) ≤ 5) ∧ (¬ (3 : Int32) < 0) ∧ ((3 : Int32) ≤ 5) ∧ (¬ (4 : Int32) < 0) ∧ ((4 : Int32) ≤ 5) ∧ (¬ (5 : Int32) < 0) ∧ ((5 : Int32) ≤ 5) ∧ (¬ (5 : Int32) = 0) ∧ (¬ (0 : Int32) = 5) ∧ (¬ (5 : Int32) = 1) ∧ (¬ (1 : Int32) = 5) ∧ (¬ (5 : Int32) = 2) ∧ (¬ (2 : Int32) = 5) ∧ (¬ (5 : Int32) = 3) ∧ (¬ (3 : Int32) = 5) ∧ (¬ (5 : Int32) = 4) ∧ (¬ (4 : Int32) = 5) := by decide
theorem pl_w {x : Int32} (w6 : ¬ x < 0) (w7 : x ≤ 5) : x = 0 ∨ x = 1 ∨ x = 2 ∨ x = 3 ∨ x = 4 ∨ x = 5 := by
  obtain ⟨j, hj, rfl⟩ := nI_of2 (n := 5) (by decide) w6 w7
  have h : j = 0 ∨ j = 1 ∨ j = 2 ∨ j = 3 ∨ j = 4 ∨ j = 5 := by omega
  rcases h with h | h | h | h | h | h <;> subst h <;> decide
theorem i_vc_look {k : Nat} {u : SX} {v : SY} (I : i_Rel k u v) (hk : k + 4 ≤ 2052) (v1 : Int32) (v2 : Int32) (v3 : Int32) : wpX_look (fun r => wpY_look (fun r' => r' = r ∧ i_Rel (k + 4) u v) v v1 v2 v3) u v1 v2 v3 := by
  obtain ⟨nc, nr, nl, nt, ck, bg, S, P, M, ph, xs, xp, xq, xg, xv, xf, xl, xc, xh, xw, xz, ym, yf, ys, yp, yq, yl, yg, yv, rfl, rfl, H⟩ := I
  have hb := pl_b H
  rcases pl_ix v1 (n := nc) (by omega) with h | ⟨h, h', h''⟩ | ⟨c, hc, rfl⟩
  · simp (disch := omega) only [wpX_look, wpX_isClient, wpY_look, wpY_badClient, h, pl_nq, pl_cc, pl_vc, pl_le8, pl_le32, pl_lt64, pl_lt1, pl_lt8, pl_lt32, nI_pos, nI_pos', vp_in_nI, nI_clamp, nI_1, nI_leI, nI_ltI, nI_eq, forall_eq, true_implies, forall_const, not_true_eq_false, not_false_eq_true, false_implies, and_true, true_and, implies_true, and_self, eq_self]
    exact pl_mk H
  · simp (disch := omega) only [wpX_look, wpX_isClient, wpY_look, wpY_badClient, h, h', h'', pl_nq, pl_cc, pl_vc, pl_le8, pl_le32, pl_lt64, pl_lt1, pl_lt8, pl_lt32, nI_pos, nI_pos', vp_in_nI, nI_clamp, nI_1, nI_leI, nI_ltI, nI_eq, forall_eq, true_implies, forall_const, not_true_eq_false, not_false_eq_true, false_implies, and_true, true_and, implies_true, and_self, eq_self]
    exact pl_mk H
  · have hc' : ¬ nc ≤ c := by omega
    have hcl := pl_cl H (c := c) (by omega)
    by_cases w6 : v2 < 0
    · simp (disch := omega) only [wpX_look, wpX_isClient, wpY_look, wpY_badClient, hc, hc', w6, pl_nq, pl_cc, pl_vc, pl_le8, pl_le32, pl_lt64, pl_lt1, pl_lt8, pl_lt32, nI_pos, nI_pos', vp_in_nI, nI_clamp, nI_1, nI_leI, nI_ltI, nI_eq, forall_eq, true_implies, forall_const, not_true_eq_false, not_false_eq_true, false_implies, and_true, true_and, implies_true, and_self, eq_self]
      exact pl_mk H
    · by_cases w7 : v2 ≤ 5
      · rcases pl_w w6 w7 with w | w | w | w | w | w
        · subst w
          simp (disch := omega) only [wpX_look, wpX_isClient, wpY_look, wpY_badClient, wY_look_41, hc, hc', pl_lk5, pl_nq, pl_m1, pl_cc, pl_vc, pl_le8, pl_le32, pl_lt64, pl_lt1, pl_lt8, pl_lt32, nI_pos, nI_pos', vp_in_nI, nI_clamp, nI_1, nI_leI, nI_ltI, nI_eq, forall_eq, true_implies, forall_const, not_true_eq_false, not_false_eq_true, false_implies, and_true, true_and, implies_true, and_self, eq_self]
          exact pl_mk H
        · subst w
          rcases hcl with ⟨m0, p0, e1, e2, e3, e4⟩ | ⟨t, m1, lt, p0, em, es, et, l1, l2, ef, ok, eq, eq', eg, ep, ep', lp⟩
          · simp (disch := omega) only [wpX_look, wpX_isClient, wpY_look, wpY_badClient, wY_look_41, hc, hc', p0, e1, pl_lk5, pl_nq, pl_m1, pl_cc, pl_vc, pl_le8, pl_le32, pl_lt64, pl_lt1, pl_lt8, pl_lt32, nI_pos, nI_pos', vp_in_nI, nI_clamp, nI_1, nI_leI, nI_ltI, nI_eq, forall_eq, true_implies, forall_const, not_true_eq_false, not_false_eq_true, false_implies, and_true, true_and, implies_true, and_self, eq_self]
            exact pl_mk H
          · simp (disch := omega) only [wpX_look, wpX_isClient, wpY_look, wpY_badClient, wY_look_41, hc, hc', p0, em, es, et, pl_lk5, pl_nq, pl_m1, pl_cc, pl_vc, pl_le8, pl_le32, pl_lt64, pl_lt1, pl_lt8, pl_lt32, nI_pos, nI_pos', vp_in_nI, nI_clamp, nI_1, nI_leI, nI_ltI, nI_eq, forall_eq, true_implies, forall_const, not_true_eq_false, not_false_eq_true, false_implies, and_true, true_and, implies_true, and_self, eq_self]
            exact pl_mk H
        · subst w
          rcases hcl with ⟨m0, p0, e1, e2, e3, e4⟩ | ⟨t, m1, lt, p0, em, es, et, l1, l2, ef, ok, eq, eq', eg, ep, ep', lp⟩
          · simp (disch := omega) only [wpX_look, wpX_isClient, wpY_look, wpY_badClient, wY_look_41, hc, hc', p0, e2, pl_lk5, pl_nq, pl_m1, pl_cc, pl_vc, pl_le8, pl_le32, pl_lt64, pl_lt1, pl_lt8, pl_lt32, nI_pos, nI_pos', vp_in_nI, nI_clamp, nI_1, nI_leI, nI_ltI, nI_eq, forall_eq, true_implies, forall_const, not_true_eq_false, not_false_eq_true, false_implies, and_true, true_and, implies_true, and_self, eq_self]
            exact pl_mk H
          · by_cases z : P t = 0
            · rw [if_pos z] at ep
              rw [z, nI_0] at ep'
              simp (disch := omega) only [wpX_look, wpX_isClient, wpY_look, wpY_badClient, wY_look_41, hc, hc', p0, em, ep, ep', pl_lk5, pl_nq, pl_m1, pl_cc, pl_vc, pl_le8, pl_le32, pl_lt64, pl_lt1, pl_lt8, pl_lt32, nI_pos, nI_pos', vp_in_nI, nI_clamp, nI_1, nI_leI, nI_ltI, nI_eq, forall_eq, true_implies, forall_const, not_true_eq_false, not_false_eq_true, false_implies, and_true, true_and, implies_true, and_self, eq_self]
              exact pl_mk H
            · rw [if_neg z] at ep
              have nz : ¬ nI (P t) = 0 := nI_ne0 (by omega) (by omega)
              simp (disch := omega) only [wpX_look, wpX_isClient, wpY_look, wpY_badClient, wY_look_41, hc, hc', p0, em, ep, ep', nz, pl_lk5, pl_nq, pl_m1, pl_cc, pl_vc, pl_le8, pl_le32, pl_lt64, pl_lt1, pl_lt8, pl_lt32, nI_pos, nI_pos', vp_in_nI, nI_clamp, nI_1, nI_leI, nI_ltI, nI_eq, forall_eq, true_implies, forall_const, not_true_eq_false, not_false_eq_true, false_implies, and_true, true_and, implies_true, and_self, eq_self]
              exact pl_mk H
        · subst w
          rcases hcl with ⟨m0, p0, e1, e2, e3, e4⟩ | ⟨t, m1, lt, p0, em, es, et, l1, l2, ef, ok, eq, eq', eg, ep, ep', lp⟩
          · simp (disch := omega) only [wpX_look, wpX_isClient, wpY_look, wpY_badClient, wY_look_41, hc, hc', p0, e3, pl_lk5, pl_nq, pl_m1, pl_cc, pl_vc, pl_le8, pl_le32, pl_lt64, pl_lt1, pl_lt8, pl_lt32, nI_pos, nI_pos', vp_in_nI, nI_clamp, nI_1, nI_leI, nI_ltI, nI_eq, forall_eq, true_implies, forall_const, not_true_eq_false, not_false_eq_true, false_implies, and_true, true_and, implies_true, and_self, eq_self]
            exact pl_mk H
          · rcases eq' with y | y
            · simp (disch := omega) only [wpX_look, wpX_isClient, wpY_look, wpY_badClient, wY_look_41, hc, hc', p0, em, eq, y, pl_lk5, pl_nq, pl_m1, pl_cc, pl_vc, pl_le8, pl_le32, pl_lt64, pl_lt1, pl_lt8, pl_lt32, nI_pos, nI_pos', vp_in_nI, nI_clamp, nI_1, nI_leI, nI_ltI, nI_eq, forall_eq, true_implies, forall_const, not_true_eq_false, not_false_eq_true, false_implies, and_true, true_and, implies_true, and_self, eq_self]
              exact pl_mk H
            · have y0 : (0 : Int32) ≤ yq t := Int32.not_lt.mp y
              simp (disch := omega) only [wpX_look, wpX_isClient, wpY_look, wpY_badClient, wY_look_41, hc, hc', p0, em, eq, y0, pl_lk5, pl_nq, pl_m1, pl_cc, pl_vc, pl_le8, pl_le32, pl_lt64, pl_lt1, pl_lt8, pl_lt32, nI_pos, nI_pos', vp_in_nI, nI_clamp, nI_1, nI_leI, nI_ltI, nI_eq, forall_eq, true_implies, forall_const, not_true_eq_false, not_false_eq_true, false_implies, and_true, true_and, implies_true, and_self, eq_self]
              exact pl_mk H
        · subst w
          rcases pl_ix v3 (n := nr) (by omega) with h | ⟨h, h', h''⟩ | ⟨r, hr, rfl⟩
          · simp (disch := omega) only [wpX_look, wpX_isClient, wX_look_30, wpX_isRow, wpX_lookAtRow, wpX_clientCell, wpY_look, wpY_badClient, wY_look_30, wY_look_41, wpY_badRow, hc, hc', h, pl_lk5, pl_nq, pl_m1, pl_cc, pl_vc, pl_le8, pl_le32, pl_lt64, pl_lt1, pl_lt8, pl_lt32, nI_pos, nI_pos', vp_in_nI, nI_clamp, nI_1, nI_leI, nI_ltI, nI_eq, forall_eq, true_implies, forall_const, not_true_eq_false, not_false_eq_true, false_implies, and_true, true_and, implies_true, and_self, eq_self]
            exact pl_mk H
          · simp (disch := omega) only [wpX_look, wpX_isClient, wX_look_30, wpX_isRow, wpX_lookAtRow, wpX_clientCell, wpY_look, wpY_badClient, wY_look_30, wY_look_41, wpY_badRow, hc, hc', h, h', h'', pl_lk5, pl_nq, pl_m1, pl_cc, pl_vc, pl_le8, pl_le32, pl_lt64, pl_lt1, pl_lt8, pl_lt32, nI_pos, nI_pos', vp_in_nI, nI_clamp, nI_1, nI_leI, nI_ltI, nI_eq, forall_eq, true_implies, forall_const, not_true_eq_false, not_false_eq_true, false_implies, and_true, true_and, implies_true, and_self, eq_self]
            exact pl_mk H
          · have hr' : ¬ nr ≤ r := by omega
            rcases hcl with ⟨m0, p0, e1, e2, e3, e4⟩ | ⟨t, m1, lt, p0, em, es, et, l1, l2, ef, ok, eq, eq', eg, ep, ep', _⟩
            · have g0 := e4 r (by omega)
              simp (disch := omega) only [wpX_look, wpX_isClient, wX_look_30, wpX_isRow, wpX_lookAtRow, wpX_clientCell, wpY_look, wpY_badClient, wY_look_30, wY_look_41, wpY_badRow, hc, hc', hr, hr', p0, g0, pl_lk5, pl_nq, pl_m1, pl_cc, pl_vc, pl_le8, pl_le32, pl_lt64, pl_lt1, pl_lt8, pl_lt32, nI_pos, nI_pos', vp_in_nI, nI_clamp, nI_1, nI_leI, nI_ltI, nI_eq, forall_eq, true_implies, forall_const, not_true_eq_false, not_false_eq_true, false_implies, and_true, true_and, implies_true, and_self, eq_self]
              exact pl_mk H
            · have g0 := (eg r (by omega)).1
              simp (disch := omega) only [wpX_look, wpX_isClient, wX_look_30, wpX_isRow, wpX_lookAtRow, wpX_clientCell, wpY_look, wpY_badClient, wY_look_30, wY_look_41, wpY_badRow, hc, hc', hr, hr', p0, em, g0, pl_lk5, pl_nq, pl_m1, pl_cc, pl_vc, pl_le8, pl_le32, pl_lt64, pl_lt1, pl_lt8, pl_lt32, nI_pos, nI_pos', vp_in_nI, nI_clamp, nI_1, nI_leI, nI_ltI, nI_eq, forall_eq, true_implies, forall_const, not_true_eq_false, not_false_eq_true, false_implies, and_true, true_and, implies_true, and_self, eq_self]
              exact pl_mk H
        · subst w
          rcases pl_ix v3 (n := nr) (by omega) with h | ⟨h, h', h''⟩ | ⟨r, hr, rfl⟩
          · simp (disch := omega) only [wpX_look, wpX_isClient, wX_look_30, wpX_isRow, wpX_lookAtRow, wpX_clientCell, wpY_look, wpY_badClient, wY_look_30, wY_look_41, wpY_badRow, hc, hc', h, pl_lk5, pl_nq, pl_m1, pl_cc, pl_vc, pl_le8, pl_le32, pl_lt64, pl_lt1, pl_lt8, pl_lt32, nI_pos, nI_pos', vp_in_nI, nI_clamp, nI_1, nI_leI, nI_ltI, nI_eq, forall_eq, true_implies, forall_const, not_true_eq_false, not_false_eq_true, false_implies, and_true, true_and, implies_true, and_self, eq_self]
            exact pl_mk H
          · simp (disch := omega) only [wpX_look, wpX_isClient, wX_look_30, wpX_isRow, wpX_lookAtRow, wpX_clientCell, wpY_look, wpY_badClient, wY_look_30, wY_look_41, wpY_badRow, hc, hc', h, h', h'', pl_lk5, pl_nq, pl_m1, pl_cc, pl_vc, pl_le8, pl_le32, pl_lt64, pl_lt1, pl_lt8, pl_lt32, nI_pos, nI_pos', vp_in_nI, nI_clamp, nI_1, nI_leI, nI_ltI, nI_eq, forall_eq, true_implies, forall_const, not_true_eq_false, not_false_eq_true, false_implies, and_true, true_and, implies_true, and_self, eq_self]
            exact pl_mk H
          · have hr' : ¬ nr ≤ r := by omega
            rcases hcl with ⟨m0, p0, e1, e2, e3, e4⟩ | ⟨t, m1, lt, p0, em, es, et, l1, l2, ef, ok, eq, eq', eg, ep, ep', _⟩
            · have g0 := e4 r (by omega)
              simp (disch := omega) only [wpX_look, wpX_isClient, wX_look_30, wpX_isRow, wpX_lookAtRow, wpX_clientCell, wpY_look, wpY_badClient, wY_look_30, wY_look_41, wpY_badRow, hc, hc', hr, hr', p0, g0, pl_lk5, pl_nq, pl_m1, pl_cc, pl_vc, pl_le8, pl_le32, pl_lt64, pl_lt1, pl_lt8, pl_lt32, nI_pos, nI_pos', vp_in_nI, nI_clamp, nI_1, nI_leI, nI_ltI, nI_eq, forall_eq, true_implies, forall_const, not_true_eq_false, not_false_eq_true, false_implies, and_true, true_and, implies_true, and_self, eq_self]
              exact pl_mk H
            · have g0 := (eg r (by omega)).1
              by_cases z : yg (t * 8 + r) = 0
              · simp (disch := omega) only [wpX_look, wpX_isClient, wX_look_30, wpX_isRow, wpX_lookAtRow, wpX_clientCell, wpY_look, wpY_badClient, wY_look_30, wY_look_41, wpY_badRow, hc, hc', hr, hr', p0, em, g0, z, pl_lk5, pl_nq, pl_m1, pl_cc, pl_vc, pl_le8, pl_le32, pl_lt64, pl_lt1, pl_lt8, pl_lt32, nI_pos, nI_pos', vp_in_nI, nI_clamp, nI_1, nI_leI, nI_ltI, nI_eq, forall_eq, true_implies, forall_const, not_true_eq_false, not_false_eq_true, false_implies, and_true, true_and, implies_true, and_self, eq_self]
                exact pl_mk H
              · have g1 := (eg r (by omega)).2 z
                simp (disch := omega) only [wpX_look, wpX_isClient, wX_look_30, wpX_isRow, wpX_lookAtRow, wpX_clientCell, wpY_look, wpY_badClient, wY_look_30, wY_look_41, wpY_badRow, hc, hc', hr, hr', p0, em, g0, g1, z, pl_lk5, pl_nq, pl_m1, pl_cc, pl_vc, pl_le8, pl_le32, pl_lt64, pl_lt1, pl_lt8, pl_lt32, nI_pos, nI_pos', vp_in_nI, nI_clamp, nI_1, nI_leI, nI_ltI, nI_eq, forall_eq, true_implies, forall_const, not_true_eq_false, not_false_eq_true, false_implies, and_true, true_and, implies_true, and_self, eq_self]
                exact pl_mk H
      · simp (disch := omega) only [wpX_look, wpX_isClient, wpY_look, wpY_badClient, hc, hc', w6, w7, pl_nq, pl_cc, pl_vc, pl_le8, pl_le32, pl_lt64, pl_lt1, pl_lt8, pl_lt32, nI_pos, nI_pos', vp_in_nI, nI_clamp, nI_1, nI_leI, nI_ltI, nI_eq, forall_eq, true_implies, forall_const, not_true_eq_false, not_false_eq_true, false_implies, and_true, true_and, implies_true, and_self, eq_self]
        exact pl_mk H
end PLK
