section LWH
variable {nc nr nl nt ck bg : Nat} {S P M : Nat → Nat} {ph xs xp xq xg xv xf xl xc xh xw xz ym yf ys yp yq yl yg yv : Nat → Int32}
variable {w0 w1 w2 w3 o0 o1 o2 o3 cu rm be bo de dn st : Int64} {kk aa bb op cc dd r0 re an jj rr pa pr kd : Int32} {kc ks L s : Nat} {xs0 : Nat → Int32} {post : Int32 → Prop} {J98 : lw_T98} {J197 : lw_T197}
/-! read -/
theorem lw_vex (H : pl_R nc nr nl nt ck bg S P M ph xs xp xq xg xv xf xl xc xh xw xz ym yf ys yp yq yl yg yv) {r : Nat} (hr : r < nr) (a : Nat) : ∃ vt v, lw_Ver bg P yf yg yv r a vt v := by
  have hb := pl_b H
  rcases pl_new H (r := r) (by omega) (fun p => p ≤ a) with ⟨t, lt, f3, g, le, _, _, _, _, _, _, hm⟩ | ⟨_, hn⟩
  · refine ⟨_, _, Or.inr ⟨t, lt, f3, g, le, rfl, rfl, fun t' lt' f' g' l' => ?_⟩⟩
    by_cases e : t' = t
    · rw [e]; exact Nat.le_refl _
    · exact Nat.le_of_lt (hm t' (by omega) f' g' l' e)
  · exact ⟨-1, -1, Or.inl ⟨rfl, rfl, fun t lt f g => hn t (by omega) f g⟩⟩
theorem lw_vb (H : pl_R nc nr nl nt ck bg S P M ph xs xp xq xg xv xf xl xc xh xw xz ym yf ys yp yq yl yg yv) (HI : lw_I nc nr nt ck bg S P M yf yg yv w0 w1 w2 w3 o0 o1 o2 o3 cu rm be st) {r a : Nat} {vt v : Int32} (hr : r < nr) (hV : lw_Ver bg P yf yg yv r a vt v) : ¬ v < -1 ∧ ¬ v = -11 := by
  have hb := pl_b H
  have i2 := HI.2.1
  have i3 := HI.2.2.1
  have key : ¬ v < -1 := by
    rcases hV with ⟨_, e, _⟩ | ⟨t, lt, f3, g, _, _, e, _⟩
    · rw [e]; decide
    · obtain ⟨w1', w2'⟩ := HI.2.2.2.2.2.2.1.1 r t hr lt
      have l := (H.2.1 t lt).2.2
      have fl := pb_fl (lw_W w0 w1 w2 w3 r) (2 * (S t - 1)) 2
      rw [e, w2' (fun y => g (w1'.mp y))]
      exact (lw_vr (by omega) (by omega) (by omega)).1
  exact ⟨key, fun y => key (by rw [y]; decide)⟩
theorem lw_tail (H : pl_R nc nr nl nt ck bg S P M ph xs xp xq xg xv xf xl xc xh xw xz ym yf ys yp yq yl yg yv) (HI : lw_I nc nr nt ck bg S P M yf yg yv w0 w1 w2 w3 o0 o1 o2 o3 cu rm be st) {r t : Nat} (hr : r < nr) (lt : t < bg) {Z : Int32 → St2 → Prop}
    (hZ : ∀ v : Int32, (∀ p : Int32 → Prop, p v → wpX_peek p (nI nc, nI nr, nI nl, nI nt, nI ck, nI bg, ph, xs, xp, xq, xg, xv, xf, xl, xc, xh, xw, xz) (nI r) (nI (S t))) → ¬ v < -1 → ¬ v = -11 → Z v (nI nc, nI nr, nI nl, nI nt, nI ck, nI bg, ph, xs, xp, xq, xg, xv, xf, xl, xc, xh, xw, xz)) : wX_read_59 Z (nI r) (nI (S t)) (nI nc) (nI nr) (nI nl) (nI nt) (nI ck) (nI bg) ph xs xp xq xg xv xf xl xc xh xw xz := by
  have hb := pl_b H
  have hr' : ¬ nr ≤ r := by omega
  have lS := (H.2.1 t lt).2.2
  obtain ⟨vt, v, hV⟩ := lw_vex H hr (S t)
  obtain ⟨b1, b2⟩ := lw_vb H HI hr hV
  have kP := (lw_ver H (z := nI (S t)) hr hV (fun q l1 l2 => nI_leI (by omega) (by omega))).2
  have k := kP (fun r_47 => Z r_47 (nI nc, nI nr, nI nl, nI nt, nI ck, nI bg, ph, xs, xp, xq, xg, xv, xf, xl, xc, xh, xw, xz)) (hZ v kP b1 b2)
  simp (disch := omega) only [wpX_peek, wpX_isRow, hr, hr', pl_nq, pl_cc, pl_vc, pl_le8, pl_le32, pl_lt64, pl_lt1, pl_lt8, pl_lt32, nI_pos, nI_pos', vp_in_nI, nI_clamp, nI_1, nI_leI, nI_ltI, nI_eq, forall_eq, true_implies, forall_const, not_true_eq_false, not_false_eq_true, false_implies, and_true, true_and, implies_true, and_self, eq_self] at k
  unfold wX_read_59
  exact k
theorem lw_k5 (H : pl_R nc nr nl nt ck bg S P M ph xs xp xq xg xv xf xl xc xh xw xz ym yf ys yp yq yl yg yv) (HI : lw_I nc nr nt ck bg S P M yf yg yv w0 w1 w2 w3 o0 o1 o2 o3 cu rm be st) (kp : ∀ t, t < bg → lw_kp S yf bo de dn t) (hF : lw_F ck bo de dn) (hJ : lw_HJ nc nr jj J197) {c r : Nat} (hc : c < nc) (hr : r < nr) : wL_law_465 post L xs0 J98 J197 (nI nc) (nI nr) w0 w1 w2 w3 o0 o1 o2 o3 cu rm be bo de dn st (nI ck) kk aa bb op (nI c) dd r0 re jj (nI r) pa pr 5 kc ks (nI nc) (nI nr) (nI nl) (nI nt) (nI ck) (nI bg) ph xs xp xq xg xv xf xl xc xh xw xz := by
  have hb := pl_b H
  have hc' : ¬ nc ≤ c := by omega
  have hr' : ¬ nr ≤ r := by omega
  have i2 := HI.2.1
  have i3 := HI.2.2.1
  unfold wL_law_465
  refine lw_at (by omega) (br_f (by decide) (br_f (by decide) (br_f (by decide) (br_f (by decide) (br_f (by decide) (br_t rfl ?_))))))
  rcases pl_cl H (c := c) (by omega) with ⟨m0, p0, _⟩ | ⟨t, m1, lt, p0, em, es, et, l1, l2, ef, ok, eq, eq', eg, _⟩
  · simp (disch := omega) only [wpX_read, wpX_isClient, wpX_isRow, hc, hc', hr, hr', p0, lw_neg, pl_nq, pl_cc, pl_vc, pl_le8, pl_le32, pl_lt64, pl_lt1, pl_lt8, pl_lt32, nI_pos, nI_pos', vp_in_nI, nI_clamp, nI_1, nI_leI, nI_ltI, nI_eq, forall_eq, true_implies, forall_const, not_true_eq_false, not_false_eq_true, false_implies, and_true, true_and, implies_true, and_self, eq_self]
    exact lw_same H HI hJ (lw_sb _ _) kp hF (fun y => absurd y (by decide)) (by decide)
  · have eC := HI.2.2.2.2.2.1 c t hc m1
    have lS := (H.2.1 t lt).2.2
    have nS : ¬ nI (S t) = 0 := nI_ne0 (by omega) (by omega)
    rw [eC]
    have hst0 : ∀ (an : Int32) (m : Int64) (q : Nat), q < bg → lw_sta nr S P yf yg bo de dn m 5 an (S t) (nI r) pr pa q := fun _ _ q lq => Or.inl (kp q lq)
    -- who still holds the row began later than the reader
    have cond : ∀ (xf' xh' yf' : Nat → Int32), pl_R nc nr nl nt ck bg S P M ph xs xp xq xg xv xf' xl xc xh' xw xz ym yf' ys yp yq yl yg yv → lw_I nc nr nt ck bg S P M yf' yg yv w0 w1 w2 w3 o0 o1 o2 o3 cu rm be st → (∀ t1, t1 < bg → yf' t1 = 2 → yg (t1 * 8 + r) = 2 → S t ≤ S t1) → ∀ t1, t1 < bg → yf' t1 = 2 → P t1 ≠ 0 → yg (t1 * 8 + r) ≠ 0 → S t < P t1 := by
      intro xf' xh' yf' H' HI' h t1 lt1 f2 p g
      obtain ⟨_, k2, _, k4⟩ := HI'.2.2.2.2.2.2.2.2.2 t1 lt1
      have a := k2 p
      rcases k4 f2 p r (by omega) with y | y
      · exact absurd y g
      · have := h t1 lt1 f2 y
        omega
    rcases pl_hd H hr with ⟨e, z⟩ | ⟨t1, lt1, f2, g2, e, et1, l11, l12, el, z⟩
    · have q : ¬ nI (S t) ≤ -1 := Int32.not_le.mpr (Int32.lt_of_lt_of_le (by decide : (-1 : Int32) < 0) (nI_pos' (by omega)))
      simp (disch := omega) only [wpX_read, wpX_isClient, wpX_isRow, hc, hc', hr, hr', p0, es, e, q, pl_nq, pl_cc, pl_vc, pl_le8, pl_le32, pl_lt64, pl_lt1, pl_lt8, pl_lt32, nI_pos, nI_pos', vp_in_nI, nI_clamp, nI_1, nI_leI, nI_ltI, nI_eq, forall_eq, true_implies, forall_const, not_true_eq_false, not_false_eq_true, false_implies, and_true, true_and, implies_true, and_self, eq_self]
      refine px_clear H hr (fun t' a b d _ _ _ => absurd d (z t' (by omega) b)) ?_
      intro xf' xh' yf' H' hh lk
      have ey : yf' = yf := by
        rcases lk with ⟨e', _⟩ | ⟨t', a, b, d, _⟩
        · exact e'
        · exact absurd d (z t' (by omega) b)
      subst ey
      simp (disch := omega) only [pl_nq, pl_cc, pl_vc, pl_le8, pl_le32, pl_lt64, pl_lt1, pl_lt8, pl_lt32, nI_pos, nI_pos', vp_in_nI, nI_clamp, nI_1, nI_leI, nI_ltI, nI_eq, forall_eq, true_implies, forall_const, not_true_eq_false, not_false_eq_true, false_implies, and_true, true_and, implies_true, and_self, eq_self]
      refine lw_tail H' HI hr lt ?_
      intro v kP nv n11
      refine br_f nv (br_f nS (kP _ (br_t rfl (lw_at (by omega) ?_))))
      refine br_c (fun _ => lw_go H' HI hJ (by omega) (hst0 _ rm) hF (fun a => absurd a (by decide)) (fun a => absurd a n11)) (fun _ => lw_with (c := r) (v := S t) (by omega) ?_)
      exact lw_go H' (lw_i_rm hr lS (by omega) (cond xf' xh' yf' H' HI (fun t1 lt1 f g => absurd g (z t1 (by omega) f))) HI) hJ (by omega) (hst0 _ _) hF (fun a => absurd a (by decide)) (fun a => absurd a n11)
    · by_cases q : S t ≤ S t1
      · simp (disch := omega) only [wpX_read, wpX_isClient, wpX_isRow, hc, hc', hr, hr', p0, es, e, q, pl_nq, pl_cc, pl_vc, pl_le8, pl_le32, pl_lt64, pl_lt1, pl_lt8, pl_lt32, nI_pos, nI_pos', vp_in_nI, nI_clamp, nI_1, nI_leI, nI_ltI, nI_eq, forall_eq, true_implies, forall_const, not_true_eq_false, not_false_eq_true, false_implies, and_true, true_and, implies_true, and_self, eq_self]
        refine lw_tail H HI hr lt ?_
        intro v kP nv n11
        refine br_f nv (br_f nS (kP _ (br_t rfl (lw_at (by omega) ?_))))
        refine br_c (fun _ => lw_go H HI hJ (by omega) (hst0 _ rm) hF (fun a => absurd a (by decide)) (fun a => absurd a n11)) (fun _ => lw_with (c := r) (v := S t) (by omega) ?_)
        exact lw_go H (lw_i_rm hr lS (by omega) (cond xf xh yf H HI (fun t2 lt2 f g => by rw [z t2 (by omega) f g]; exact q)) HI) hJ (by omega) (hst0 _ _) hF (fun a => absurd a (by decide)) (fun a => absurd a n11)
      · simp (disch := omega) only [wpX_read, wpX_isClient, wpX_isRow, hc, hc', hr, hr', p0, es, e, q, pl_nq, pl_cc, pl_vc, pl_le8, pl_le32, pl_lt64, pl_lt1, pl_lt8, pl_lt32, nI_pos, nI_pos', vp_in_nI, nI_clamp, nI_1, nI_leI, nI_ltI, nI_eq, forall_eq, true_implies, forall_const, not_true_eq_false, not_false_eq_true, false_implies, and_true, true_and, implies_true, and_self, eq_self]
        refine px_clear H hr (fun t' a b d m e' z' => ?_) ?_
        · simp (disch := omega) only [lw_neg, pl_cc, pl_vc, pl_le8, pl_le32, pl_lt64, pl_lt1, pl_lt8, pl_lt32, nI_pos, nI_pos', vp_in_nI, nI_clamp, nI_1, nI_leI, nI_ltI, nI_eq, forall_eq, true_implies, forall_const, not_true_eq_false, not_false_eq_true, false_implies, and_true, true_and, implies_true, and_self, eq_self]
          exact lw_same H HI hJ (by omega) kp hF (fun y => absurd y (by decide)) (by decide)
        · intro xf' xh' yf' H' hh lk
          have ne : t1 ≠ t := fun y => q (by rw [y]; exact Nat.le_refl _)
          obtain ⟨HI', ey, hq⟩ := lw_lk (kd := 5) (s := S t) kp H.2.2.1 lt lk (Or.inr rfl) rfl (fun t2 lt2 f g y => ne (by rw [← y]; exact (z t2 (by omega) f g).symm)) HI
          have hst : ∀ (an : Int32) (m : Int64) (q : Nat), q < bg → lw_sta nr S P yf' yg bo de dn m 5 an (S t) (nI r) pr pa q := fun _ _ q lq => (hq q lq).elim Or.inl (fun y => Or.inr (Or.inr (Or.inl y.2)))
          have nh : ∀ t2, t2 < bg → yf' t2 = 2 → ¬ yg (t2 * 8 + r) = 2 := by
            intro t2 lt2 f g
            have y := H'.2.2.2.2.2.2.2.2.2.2.2.2.2.2.2.2.2.1 r t2 hr lt2 f g
            rw [hh] at y
            have := (H.2.1 t2 lt2).2.2
            exact pl_ne1 (by omega) y.symm
          simp (disch := omega) only [pl_nq, pl_cc, pl_vc, pl_le8, pl_le32, pl_lt64, pl_lt1, pl_lt8, pl_lt32, nI_pos, nI_pos', vp_in_nI, nI_clamp, nI_1, nI_leI, nI_ltI, nI_eq, forall_eq, true_implies, forall_const, not_true_eq_false, not_false_eq_true, false_implies, and_true, true_and, implies_true, and_self, eq_self]
          refine lw_tail H' HI' hr lt ?_
          intro v kP nv n11
          refine br_f nv (br_f nS (kP _ (br_t rfl (lw_at (by omega) ?_))))
          refine br_c (fun _ => lw_go H' HI' hJ (by omega) (hst _ rm) hF (fun a => absurd a (by decide)) (fun a => absurd a n11)) (fun _ => lw_with (c := r) (v := S t) (by omega) ?_)
          exact lw_go H' (lw_i_rm hr lS (by omega) (cond xf' xh' yf' H' HI' (fun t2 lt2 f g => absurd g (nh t2 lt2 f))) HI') hJ (by omega) (hst _ _) hF (fun a => absurd a (by decide)) (fun a => absurd a n11)
/-! one call of any kind -/
theorem lw_call (H : pl_R nc nr nl nt ck bg S P M ph xs xp xq xg xv xf xl xc xh xw xz ym yf ys yp yq yl yg yv) (HI : lw_I nc nr nt ck bg S P M yf yg yv w0 w1 w2 w3 o0 o1 o2 o3 cu rm be st) (kp : ∀ t, t < bg → lw_kp S yf bo de dn t) (hF : lw_F ck bo de dn) (hJ : lw_HJ nc nr jj J197) {c : Nat} (hc : c < nc)
    (hk : ∃ n, n ≤ 9 ∧ kd = nI n) (hr : (∃ r, r < nr ∧ rr = nI r) ∨ kd = 4) (hpa : pa = ph c) (hpr : pr = xq c)
    (hq : ∃ q, 1 ≤ q ∧ q ≤ 3 ∧ 1 + (((((bb >>> ((3 : Int32) &&& 31)) + (aa >>> ((5 : Int32) &&& 31))) + kk) + jj) - ((((bb >>> ((3 : Int32) &&& 31)) + (aa >>> ((5 : Int32) &&& 31))) + kk) + jj) / 3 * 3) = nI q) : wL_law_465 post L xs0 J98 J197 (nI nc) (nI nr) w0 w1 w2 w3 o0 o1 o2 o3 cu rm be bo de dn st (nI ck) kk aa bb op (nI c) dd r0 re jj rr pa pr kd kc ks (nI nc) (nI nr) (nI nl) (nI nt) (nI ck) (nI bg) ph xs xp xq xg xv xf xl xc xh xw xz := by
  obtain ⟨n, ln, rfl⟩ := hk
  have hr' : n ≠ 4 → ∃ r, r < nr ∧ rr = nI r := fun ne => hr.elim id (fun y => absurd (pl_im (b := 4) y (by omega) (by decide)) ne)
  have h : n = 0 ∨ n = 1 ∨ n = 2 ∨ n = 3 ∨ n = 4 ∨ n = 5 ∨ n = 6 ∨ n = 7 ∨ n = 8 ∨ n = 9 := by omega
  rcases h with h | h | h | h | h | h | h | h | h | h
  · subst h; exact lw_k0 H HI kp hF hJ hc
  · subst h
    obtain ⟨r, lr, rfl⟩ := hr' (by decide)
    exact lw_k1 H HI kp hF hJ hc lr hq
  · subst h
    obtain ⟨r, lr, rfl⟩ := hr' (by decide)
    exact lw_k2 H HI kp hF hJ hc lr
  · subst h; exact lw_k3 H HI kp hF hJ hc
  · subst h; exact lw_k4 H HI kp hF hJ hc hpa hpr
  · subst h
    obtain ⟨r, lr, rfl⟩ := hr' (by decide)
    exact lw_k5 H HI kp hF hJ hc lr
  · subst h; exact lw_k6 H HI kp hF hJ hc
  · subst h; exact lw_k7 H HI kp hF hJ hc
  · subst h; exact lw_k8 H HI kp hF hJ hc
  · subst h; exact lw_k9 H HI kp hF hJ hc
end LWH
