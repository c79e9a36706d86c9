section PLJ
variable {nc nr nl nt ck bg : Nat} {S P M : Nat → Nat} {ph xs xp xq xg xv xf xl xc xh xw xz ym yf ys yp yq yl yg yv : Nat → Int32}
theorem i_vc_peek {k : Nat} {u : SX} {v : SY} (I : i_Rel k u v) (hk : k + 4 ≤ 2052) (v1 : Int32) (v2 : Int32) : wpX_peek (fun r => wpY_peek (fun r' => r' = r ∧ i_Rel (k + 4) u v) v v1 v2) u v1 v2 := by
  obtain ⟨nc, nr, nl, nt, ck, bg, S, P, M, ph, xs, xp, xq, xg, xv, xf, xl, xc, xh, xw, xz, ym, yf, ys, yp, yq, yl, yg, yv, rfl, rfl, H⟩ := I
  have hb := pl_b H
  rcases pl_ix v1 (n := nr) (by omega) with h | ⟨h, h', h''⟩ | ⟨r, hr, rfl⟩
  · simp (disch := omega) only [wpX_peek, wpX_isRow, wpY_peek, wpY_badRow, h, pl_nq, pl_cc, pl_vc, pl_le8, pl_le32, pl_lt64, pl_lt1, pl_lt8, pl_lt32, nI_pos, nI_pos', vp_in_nI, nI_clamp, nI_1, nI_leI, nI_ltI, nI_eq, forall_eq, true_implies, forall_const, not_true_eq_false, not_false_eq_true, false_implies, and_true, true_and, implies_true, and_self, eq_self]
    exact pl_mk H
  · simp (disch := omega) only [wpX_peek, wpX_isRow, wpY_peek, wpY_badRow, h, h', h'', pl_nq, pl_cc, pl_vc, pl_le8, pl_le32, pl_lt64, pl_lt1, pl_lt8, pl_lt32, nI_pos, nI_pos', vp_in_nI, nI_clamp, nI_1, nI_leI, nI_ltI, nI_eq, forall_eq, true_implies, forall_const, not_true_eq_false, not_false_eq_true, false_implies, and_true, true_and, implies_true, and_self, eq_self]
    exact pl_mk H
  · have hr' : ¬ nr ≤ r := by omega
    simp (disch := omega) only [wpX_peek, wpX_isRow, wpX_valueAt, wpY_peek, wpY_badRow, hr, hr', pl_nq, pl_cc, pl_vc, pl_le8, pl_le32, pl_lt64, pl_lt1, pl_lt8, pl_lt32, nI_pos, nI_pos', vp_in_nI, nI_clamp, nI_1, nI_leI, nI_ltI, nI_eq, forall_eq, true_implies, forall_const, not_true_eq_false, not_false_eq_true, false_implies, and_true, true_and, implies_true, and_self, eq_self]
    rcases pl_nwb H (r := r) (by omega) v2 v2 (fun q => nI q ≤ v2) (fun _ _ => Iff.rfl) (fun _ _ => Int32.not_lt) with ⟨t, lt, f3, l1, l2, ep, ez, kX, kY⟩ | ⟨kX, kY⟩
    · refine kX _ ?_
      have ne : ¬ nI (P t) = -1 := pl_ne1 (by omega)
      simp (disch := omega) only [wpX_versionCell, ne, pl_cc, pl_vc, pl_le8, pl_le32, pl_lt64, pl_lt1, pl_lt8, pl_lt32, nI_pos, nI_pos', vp_in_nI, nI_clamp, nI_1, nI_leI, nI_ltI, nI_eq, forall_eq, true_implies, forall_const, not_true_eq_false, not_false_eq_true, false_implies, and_true, true_and, implies_true, and_self, eq_self]
      refine kY _ ?_
      simp (disch := omega) only [ez, pl_cc, pl_vc, pl_le8, pl_le32, pl_lt64, pl_lt1, pl_lt8, pl_lt32, nI_pos, nI_pos', vp_in_nI, nI_clamp, nI_1, nI_leI, nI_ltI, nI_eq, forall_eq, true_implies, forall_const, not_true_eq_false, not_false_eq_true, false_implies, and_true, true_and, implies_true, and_self, eq_self]
      exact pl_mk H
    · refine kX _ ?_
      simp (disch := omega) only [pl_m1, pl_cc, pl_vc, pl_le8, pl_le32, pl_lt64, pl_lt1, pl_lt8, pl_lt32, nI_pos, nI_pos', vp_in_nI, nI_clamp, nI_1, nI_leI, nI_ltI, nI_eq, forall_eq, true_implies, forall_const, not_true_eq_false, not_false_eq_true, false_implies, and_true, true_and, implies_true, and_self, eq_self]
      refine kY _ ?_
      simp (disch := omega) only [pl_m1, pl_cc, pl_vc, pl_le8, pl_le32, pl_lt64, pl_lt1, pl_lt8, pl_lt32, nI_pos, nI_pos', vp_in_nI, nI_clamp, nI_1, nI_leI, nI_ltI, nI_eq, forall_eq, true_implies, forall_const, not_true_eq_false, not_false_eq_true, false_implies, and_true, true_and, implies_true, and_self, eq_self]
      exact pl_mk H
theorem i_vc_versionTime {k : Nat} {u : SX} {v : SY} (I : i_Rel k u v) (hk : k + 4 ≤ 2052) (v1 : Int32) (v2 : Int32) : wpX_versionTime (fun r => wpY_versionTime (fun r' => r' = r ∧ i_Rel (k + 4) u v) v v1 v2) u v1 v2 := by
  obtain ⟨nc, nr, nl, nt, ck, bg, S, P, M, ph, xs, xp, xq, xg, xv, xf, xl, xc, xh, xw, xz, ym, yf, ys, yp, yq, yl, yg, yv, rfl, rfl, H⟩ := I
  have hb := pl_b H
  rcases pl_ix v1 (n := nr) (by omega) with h | ⟨h, h', h''⟩ | ⟨r, hr, rfl⟩
  · simp (disch := omega) only [wpX_versionTime, wpX_isRow, wpY_versionTime, wpY_badRow, h, pl_nq, pl_cc, pl_vc, pl_le8, pl_le32, pl_lt64, pl_lt1, pl_lt8, pl_lt32, nI_pos, nI_pos', vp_in_nI, nI_clamp, nI_1, nI_leI, nI_ltI, nI_eq, forall_eq, true_implies, forall_const, not_true_eq_false, not_false_eq_true, false_implies, and_true, true_and, implies_true, and_self, eq_self]
    exact pl_mk H
  · simp (disch := omega) only [wpX_versionTime, wpX_isRow, wpY_versionTime, wpY_badRow, h, h', h'', pl_nq, pl_cc, pl_vc, pl_le8, pl_le32, pl_lt64, pl_lt1, pl_lt8, pl_lt32, nI_pos, nI_pos', vp_in_nI, nI_clamp, nI_1, nI_leI, nI_ltI, nI_eq, forall_eq, true_implies, forall_const, not_true_eq_false, not_false_eq_true, false_implies, and_true, true_and, implies_true, and_self, eq_self]
    exact pl_mk H
  · have hr' : ¬ nr ≤ r := by omega
    simp (disch := omega) only [wpX_versionTime, wpX_isRow, wpY_versionTime, wpY_badRow, hr, hr', pl_nq, pl_cc, pl_vc, pl_le8, pl_le32, pl_lt64, pl_lt1, pl_lt8, pl_lt32, nI_pos, nI_pos', vp_in_nI, nI_clamp, nI_1, nI_leI, nI_ltI, nI_eq, forall_eq, true_implies, forall_const, not_true_eq_false, not_false_eq_true, false_implies, and_true, true_and, implies_true, and_self, eq_self]
    rcases pl_nwb H (r := r) (by omega) v2 v2 (fun q => nI q ≤ v2) (fun _ _ => Iff.rfl) (fun _ _ => Int32.not_lt) with ⟨t, lt, f3, l1, l2, ep, ez, kX, kY⟩ | ⟨kX, kY⟩
    · refine kX _ ?_
      refine kY _ ?_
      simp (disch := omega) only [ep, pl_cc, pl_vc, pl_le8, pl_le32, pl_lt64, pl_lt1, pl_lt8, pl_lt32, nI_pos, nI_pos', vp_in_nI, nI_clamp, nI_1, nI_leI, nI_ltI, nI_eq, forall_eq, true_implies, forall_const, not_true_eq_false, not_false_eq_true, false_implies, and_true, true_and, implies_true, and_self, eq_self]
      exact pl_mk H
    · refine kX _ ?_
      refine kY _ ?_
      simp (disch := omega) only [pl_m1, pl_cc, pl_vc, pl_le8, pl_le32, pl_lt64, pl_lt1, pl_lt8, pl_lt32, nI_pos, nI_pos', vp_in_nI, nI_clamp, nI_1, nI_leI, nI_ltI, nI_eq, forall_eq, true_implies, forall_const, not_true_eq_false, not_false_eq_true, false_implies, and_true, true_and, implies_true, and_self, eq_self]
      exact pl_mk H
theorem i_vc_holder {k : Nat} {u : SX} {v : SY} (I : i_Rel k u v) (hk : k + 4 ≤ 2052) (v1 : Int32) : wpX_holder (fun r => wpY_holder (fun r' => r' = r ∧ i_Rel (k + 4) u v) v v1) u v1 := by
  obtain ⟨nc, nr, nl, nt, ck, bg, S, P, M, ph, xs, xp, xq, xg, xv, xf, xl, xc, xh, xw, xz, ym, yf, ys, yp, yq, yl, yg, yv, rfl, rfl, H⟩ := I
  have hb := pl_b H
  rcases pl_ix v1 (n := nr) (by omega) with h | ⟨h, h', h''⟩ | ⟨r, hr, rfl⟩
  · simp (disch := omega) only [wpX_holder, wpX_isRow, wpY_holder, wpY_badRow, h, pl_nq, pl_cc, pl_vc, pl_le8, pl_le32, pl_lt64, pl_lt1, pl_lt8, pl_lt32, nI_pos, nI_pos', vp_in_nI, nI_clamp, nI_1, nI_leI, nI_ltI, nI_eq, forall_eq, true_implies, forall_const, not_true_eq_false, not_false_eq_true, false_implies, and_true, true_and, implies_true, and_self, eq_self]
    exact pl_mk H
  · simp (disch := omega) only [wpX_holder, wpX_isRow, wpY_holder, wpY_badRow, h, h', h'', pl_nq, pl_cc, pl_vc, pl_le8, pl_le32, pl_lt64, pl_lt1, pl_lt8, pl_lt32, nI_pos, nI_pos', vp_in_nI, nI_clamp, nI_1, nI_leI, nI_ltI, nI_eq, forall_eq, true_implies, forall_const, not_true_eq_false, not_false_eq_true, false_implies, and_true, true_and, implies_true, and_self, eq_self]
    exact pl_mk H
  · have hr' : ¬ nr ≤ r := by omega
    simp (disch := omega) only [wpX_holder, wpX_isRow, wpY_holder, wpY_badRow, hr, hr', pl_nq, pl_cc, pl_vc, pl_le8, pl_le32, pl_lt64, pl_lt1, pl_lt8, pl_lt32, nI_pos, nI_pos', vp_in_nI, nI_clamp, nI_1, nI_leI, nI_ltI, nI_eq, forall_eq, true_implies, forall_const, not_true_eq_false, not_false_eq_true, false_implies, and_true, true_and, implies_true, and_self, eq_self]
    rcases pl_hd H hr with ⟨e, z⟩ | ⟨t, lt, f2, g2, e, et, l1, l2, el, z⟩
    · refine py_ho (by omega) (fun t l a b => absurd b (z t l a)) (fun _ => ?_)
      simp (disch := omega) only [pl_m1, e, pl_cc, pl_vc, pl_le8, pl_le32, pl_lt64, pl_lt1, pl_lt8, pl_lt32, nI_pos, nI_pos', vp_in_nI, nI_clamp, nI_1, nI_leI, nI_ltI, nI_eq, forall_eq, true_implies, forall_const, not_true_eq_false, not_false_eq_true, false_implies, and_true, true_and, implies_true, and_self, eq_self]
      exact pl_mk H
    · refine py_ho (by omega) (fun t' l a b => ?_) (fun z' => absurd g2 (z' t (by omega) f2))
      have n := z t' l a b
      subst n
      simp (disch := omega) only [e, et, pl_cc, pl_vc, pl_le8, pl_le32, pl_lt64, pl_lt1, pl_lt8, pl_lt32, nI_pos, nI_pos', vp_in_nI, nI_clamp, nI_1, nI_leI, nI_ltI, nI_eq, forall_eq, true_implies, forall_const, not_true_eq_false, not_false_eq_true, false_implies, and_true, true_and, implies_true, and_self, eq_self]
      exact pl_mk H
theorem i_vc_leaseLeft {k : Nat} {u : SX} {v : SY} (I : i_Rel k u v) (hk : k + 4 ≤ 2052) (v1 : Int32) : wpX_leaseLeft (fun r => wpY_leaseLeft (fun r' => r' = r ∧ i_Rel (k + 4) u v) v v1) u v1 := by
  obtain ⟨nc, nr, nl, nt, ck, bg, S, P, M, ph, xs, xp, xq, xg, xv, xf, xl, xc, xh, xw, xz, ym, yf, ys, yp, yq, yl, yg, yv, rfl, rfl, H⟩ := I
  have hb := pl_b H
  rcases pl_fd H v1 with ⟨t, lt, rfl, l1, l2, ef, el, ec, es, z⟩ | ⟨a, z⟩
  · have q1 : ¬ S t < 1 := by omega
    have q2 : ¬ 64 < S t := by omega
    by_cases f2 : yf t = 2
    · have el' := el f2
      simp (disch := omega) only [wpX_leaseLeft, wpX_fateAt, q1, q2, ef, f2, el', pl_cc, pl_vc, pl_le8, pl_le32, pl_lt64, pl_lt1, pl_lt8, pl_lt32, nI_pos, nI_pos', vp_in_nI, nI_clamp, nI_1, nI_leI, nI_ltI, nI_eq, forall_eq, true_implies, forall_const, not_true_eq_false, not_false_eq_true, false_implies, and_true, true_and, implies_true, and_self, eq_self]
      refine py_ll (fun t' l a b => ?_) (fun z' => absurd es (z' t (by omega) f2))
      have n := z t' l (by rw [a]; decide) b
      subst n
      exact ⟨rfl, pl_mk H⟩
    · simp (disch := omega) only [wpX_leaseLeft, wpX_fateAt, q1, q2, ef, f2, pl_cc, pl_vc, pl_le8, pl_le32, pl_lt64, pl_lt1, pl_lt8, pl_lt32, nI_pos, nI_pos', vp_in_nI, nI_clamp, nI_1, nI_leI, nI_ltI, nI_eq, forall_eq, true_implies, forall_const, not_true_eq_false, not_false_eq_true, false_implies, and_true, true_and, implies_true, and_self, eq_self]
      refine py_ll (fun t' l a b => ?_) (fun z' => ⟨rfl, pl_mk H⟩)
      have n := z t' l (by rw [a]; decide) b
      subst n
      exact absurd a f2
  · have k2 : ∀ post : Int32 → Prop, post (-1) → wpY_leaseLeft post (nI nc, nI nr, nI nl, nI nt, nI ck, nI bg, ph, ym, yf, ys, yp, yq, yl, yg, yv) v1 := fun post hp => py_ll (fun t' l a b => absurd b (z t' l (by rw [a]; decide))) (fun _ => hp)
    by_cases q1 : v1 < 1
    · simp (disch := omega) only [wpX_leaseLeft, wpX_fateAt, q1, pl_nq, pl_cc, pl_vc, pl_le8, pl_le32, pl_lt64, pl_lt1, pl_lt8, pl_lt32, nI_pos, nI_pos', vp_in_nI, nI_clamp, nI_1, nI_leI, nI_ltI, nI_eq, forall_eq, true_implies, forall_const, not_true_eq_false, not_false_eq_true, false_implies, and_true, true_and, implies_true, and_self, eq_self]
      exact k2 _ ⟨rfl, pl_mk H⟩
    · by_cases q2 : 64 < v1
      · simp (disch := omega) only [wpX_leaseLeft, wpX_fateAt, q1, q2, pl_nq, pl_cc, pl_vc, pl_le8, pl_le32, pl_lt64, pl_lt1, pl_lt8, pl_lt32, nI_pos, nI_pos', vp_in_nI, nI_clamp, nI_1, nI_leI, nI_ltI, nI_eq, forall_eq, true_implies, forall_const, not_true_eq_false, not_false_eq_true, false_implies, and_true, true_and, implies_true, and_self, eq_self]
        exact k2 _ ⟨rfl, pl_mk H⟩
      · have h0 : ¬ v1 < 0 := fun y => q1 (Int32.lt_trans y (by decide))
        obtain ⟨j, hj, rfl⟩ := nI_of2 (n := 64) (by decide) h0 (Int32.not_lt.mp q2)
        have j1 : ¬ j < 1 := fun y => q1 ((pl_lt1 (by omega)).mpr y)
        have j2 : ¬ 64 < j := by omega
        have e0 := a j (by omega) hj rfl
        simp (disch := omega) only [wpX_leaseLeft, wpX_fateAt, j1, j2, e0, pl_nq, pl_cc, pl_vc, pl_le8, pl_le32, pl_lt64, pl_lt1, pl_lt8, pl_lt32, nI_pos, nI_pos', vp_in_nI, nI_clamp, nI_1, nI_leI, nI_ltI, nI_eq, forall_eq, true_implies, forall_const, not_true_eq_false, not_false_eq_true, false_implies, and_true, true_and, implies_true, and_self, eq_self]
        exact k2 _ ⟨rfl, pl_mk H⟩
theorem i_vc_fate {k : Nat} {u : SX} {v : SY} (I : i_Rel k u v) (hk : k + 4 ≤ 2052) (v1 : Int32) : wpX_fate (fun r => wpY_fate (fun r' => r' = r ∧ i_Rel (k + 4) u v) v v1) u v1 := by
  obtain ⟨nc, nr, nl, nt, ck, bg, S, P, M, ph, xs, xp, xq, xg, xv, xf, xl, xc, xh, xw, xz, ym, yf, ys, yp, yq, yl, yg, yv, rfl, rfl, H⟩ := I
  have hb := pl_b H
  rcases pl_fd H v1 with ⟨t, lt, rfl, l1, l2, ef, el, ec, es, z⟩ | ⟨a, z⟩
  · have q1 : ¬ S t < 1 := by omega
    have q2 : ¬ 64 < S t := by omega
    have u2 : ∀ t', t' < 32 → yf t' = 2 → ys t' = nI (S t) → t' = t := fun t' l a b => z t' l (by rw [a]; decide) b
    have u3 : ∀ t', t' < 32 → yf t' = 3 → ys t' = nI (S t) → t' = t := fun t' l a b => z t' l (by rw [a]; decide) b
    by_cases f3 : yf t = 3
    · have ec' := ec f3
      simp (disch := omega) only [wpX_fate, wpX_fateAt, q1, q2, ef, f3, ec', pl_cc, pl_vc, pl_le8, pl_le32, pl_lt64, pl_lt1, pl_lt8, pl_lt32, nI_pos, nI_pos', vp_in_nI, nI_clamp, nI_1, nI_leI, nI_ltI, nI_eq, forall_eq, true_implies, forall_const, not_true_eq_false, not_false_eq_true, false_implies, and_true, true_and, implies_true, and_self, eq_self]
      refine py_ft (fun t' l a b => ?_) (fun t' l a b => ?_) (fun z' => absurd es (z' t (by omega) (Or.inr f3)))
      · have n := u2 t' l a b
        subst n
        rw [a] at f3
        exact absurd f3 (by decide)
      · have n := u3 t' l a b
        subst n
        exact ⟨rfl, pl_mk H⟩
    · by_cases f2 : yf t = 2
      · simp (disch := omega) only [wpX_fate, wpX_fateAt, q1, q2, ef, f2, pl_nq, pl_cc, pl_vc, pl_le8, pl_le32, pl_lt64, pl_lt1, pl_lt8, pl_lt32, nI_pos, nI_pos', vp_in_nI, nI_clamp, nI_1, nI_leI, nI_ltI, nI_eq, forall_eq, true_implies, forall_const, not_true_eq_false, not_false_eq_true, false_implies, and_true, true_and, implies_true, and_self, eq_self]
        refine py_ft (fun t' l a b => ?_) (fun t' l a b => ?_) (fun z' => absurd es (z' t (by omega) (Or.inl f2)))
        · exact ⟨rfl, pl_mk H⟩
        · have n := u3 t' l a b
          subst n
          exact absurd a f3
      · simp (disch := omega) only [wpX_fate, wpX_fateAt, q1, q2, ef, f2, f3, pl_cc, pl_vc, pl_le8, pl_le32, pl_lt64, pl_lt1, pl_lt8, pl_lt32, nI_pos, nI_pos', vp_in_nI, nI_clamp, nI_1, nI_leI, nI_ltI, nI_eq, forall_eq, true_implies, forall_const, not_true_eq_false, not_false_eq_true, false_implies, and_true, true_and, implies_true, and_self, eq_self]
        refine py_ft (fun t' l a b => ?_) (fun t' l a b => ?_) (fun z' => ⟨rfl, pl_mk H⟩)
        · have n := u2 t' l a b
          subst n
          exact absurd a f2
        · have n := u3 t' l a b
          subst n
          exact absurd a f3
  · have k2 : ∀ post : Int32 → Prop, post (-1) → wpY_fate post (nI nc, nI nr, nI nl, nI nt, nI ck, nI bg, ph, ym, yf, ys, yp, yq, yl, yg, yv) v1 := fun post hp => py_ft (fun t' l a b => absurd b (z t' l (by rw [a]; decide))) (fun t' l a b => absurd b (z t' l (by rw [a]; decide))) (fun _ => hp)
    by_cases q1 : v1 < 1
    · simp (disch := omega) only [wpX_fate, wpX_fateAt, q1, pl_nq, pl_cc, pl_vc, pl_le8, pl_le32, pl_lt64, pl_lt1, pl_lt8, pl_lt32, nI_pos, nI_pos', vp_in_nI, nI_clamp, nI_1, nI_leI, nI_ltI, nI_eq, forall_eq, true_implies, forall_const, not_true_eq_false, not_false_eq_true, false_implies, and_true, true_and, implies_true, and_self, eq_self]
      exact k2 _ ⟨rfl, pl_mk H⟩
    · by_cases q2 : 64 < v1
      · simp (disch := omega) only [wpX_fate, wpX_fateAt, q1, q2, pl_nq, pl_cc, pl_vc, pl_le8, pl_le32, pl_lt64, pl_lt1, pl_lt8, pl_lt32, nI_pos, nI_pos', vp_in_nI, nI_clamp, nI_1, nI_leI, nI_ltI, nI_eq, forall_eq, true_implies, forall_const, not_true_eq_false, not_false_eq_true, false_implies, and_true, true_and, implies_true, and_self, eq_self]
        exact k2 _ ⟨rfl, pl_mk H⟩
      · have h0 : ¬ v1 < 0 := fun y => q1 (Int32.lt_trans y (by decide))
        obtain ⟨j, hj, rfl⟩ := nI_of2 (n := 64) (by decide) h0 (Int32.not_lt.mp q2)
        have j1 : ¬ j < 1 := fun y => q1 ((pl_lt1 (by omega)).mpr y)
        have j2 : ¬ 64 < j := by omega
        have e0 := a j (by omega) hj rfl
        simp (disch := omega) only [wpX_fate, wpX_fateAt, j1, j2, e0, pl_nq, pl_cc, pl_vc, pl_le8, pl_le32, pl_lt64, pl_lt1, pl_lt8, pl_lt32, nI_pos, nI_pos', vp_in_nI, nI_clamp, nI_1, nI_leI, nI_ltI, nI_eq, forall_eq, true_implies, forall_const, not_true_eq_false, not_false_eq_true, false_implies, and_true, true_and, implies_true, and_self, eq_self]
        exact k2 _ ⟨rfl, pl_mk H⟩
end PLJ
