section LWF
variable {nc nr nl nt ck bg : Nat} {S P M : Nat → Nat} {ph xs xp xq xg xv xf xl xc xh xw xz ym yf ys yp yq yl yg yv : Nat → Int32}
variable {w0 w1 w2 w3 o0 o1 o2 o3 cu rm be bo de dn st : Int64} {kk aa bb op cc dd r0 re an jj rr pa pr kd : Int32} {kc ks L s : Nat} {xs0 : Nat → Int32} {post : Int32 → Prop} {J98 : lw_T98} {J197 : lw_T197}
/-! put -/
theorem lw_vr {q s r : Nat} (hs : s ≤ 32) (hr : r < 4) (hq : q ≤ 3) : ¬ lw_v q s r < -1 ∧ lw_v q s r ≤ 9999 := by
  unfold lw_v
  by_cases e : q = 1
  · rw [if_pos e]
    decide
  · rw [if_neg e]
    exact ⟨Int32.not_lt.mpr (Int32.le_trans (by decide : (-1 : Int32) ≤ 0) (nI_pos' (by omega))), nI_le (b := 9999) (by omega) (by decide)⟩
theorem lw_W0 {a b c d m : Int64} : ∀ r', r' < 4 → lw_W m b c d r' = if r' = 0 then m else lw_W a b c d r' := by
  intro r' h
  unfold lw_W
  split <;> rfl
theorem lw_W1 {a b c d m : Int64} : ∀ r', r' < 4 → lw_W a m c d r' = if r' = 1 then m else lw_W a b c d r' := by
  intro r' h
  unfold lw_W
  by_cases e : r' = 0
  · subst e; rfl
  · rw [if_neg e, if_neg e]
    split <;> rfl
theorem lw_W2 {a b c d m : Int64} : ∀ r', r' < 4 → lw_W a b m d r' = if r' = 2 then m else lw_W a b c d r' := by
  intro r' h
  unfold lw_W
  by_cases e : r' = 0
  · subst e; rfl
  · by_cases e1 : r' = 1
    · subst e1; rfl
    · rw [if_neg e, if_neg e1, if_neg e, if_neg e1]
      split <;> rfl
theorem lw_W3 {a b c d m : Int64} : ∀ r', r' < 4 → lw_W a b c m r' = if r' = 3 then m else lw_W a b c d r' := by
  intro r' h
  unfold lw_W
  by_cases e : r' = 0
  · subst e; rfl
  · by_cases e1 : r' = 1
    · subst e1; rfl
    · by_cases e2 : r' = 2
      · subst e2; rfl
      · have e3 : r' = 3 := by omega
        subst e3; rfl
theorem lw_k1 (H : pl_R nc nr nl nt ck bg S P M ph xs xp xq xg xv xf xl xc xh xw xz ym yf ys yp yq yl yg yv) (HI : lw_I nc nr nt ck bg S P M yf yg yv w0 w1 w2 w3 o0 o1 o2 o3 cu rm be st) (kp : ∀ t, t < bg → lw_kp S yf bo de dn t) (hF : lw_F ck bo de dn) (hJ : lw_HJ nc nr jj J197) {c r : Nat} (hc : c < nc) (hr : r < nr)
    (hq : ∃ q, 1 ≤ q ∧ q ≤ 3 ∧ 1 + (((((bb >>> ((3 : Int32) &&& 31)) + (aa >>> ((5 : Int32) &&& 31))) + kk) + jj) - ((((bb >>> ((3 : Int32) &&& 31)) + (aa >>> ((5 : Int32) &&& 31))) + kk) + jj) / 3 * 3) = nI q) : wL_law_465 post L xs0 J98 J197 (nI nc) (nI nr) w0 w1 w2 w3 o0 o1 o2 o3 cu rm be bo de dn st (nI ck) kk aa bb op (nI c) dd r0 re jj (nI r) pa pr 1 kc ks (nI nc) (nI nr) (nI nl) (nI nt) (nI ck) (nI bg) ph xs xp xq xg xv xf xl xc xh xw xz := by
  have hb := pl_b H
  have hc' : ¬ nc ≤ c := by omega
  have hr' : ¬ nr ≤ r := by omega
  have i1 := HI.1
  have i2 := HI.2.1
  have i3 := HI.2.2.1
  obtain ⟨q, q1, q3, eq⟩ := hq
  unfold wL_law_465
  refine lw_at (by omega) (br_f (by decide) (br_t rfl ⟨by decide, nm_r eq (lw_val (by omega) ?_)⟩))
  rcases pl_cl H (c := c) (by omega) with ⟨m0, p0, _⟩ | ⟨t, m1, lt, p0, em, es, et, l1, l2, ef, ok, _⟩
  · by_cases w1 : lw_v q (pb_f cu (8 * c) 8) r < -1
    · simp (disch := omega) only [wpX_put, wpX_isClient, wpX_isRow, hc, hc', hr, hr', w1, lw_neg, pl_nq, pl_cc, pl_vc, pl_le8, pl_le32, pl_lt64, pl_lt1, pl_lt8, pl_lt32, nI_pos, nI_pos', vp_in_nI, nI_clamp, nI_1, nI_leI, nI_ltI, nI_eq, forall_eq, true_implies, forall_const, not_true_eq_false, not_false_eq_true, false_implies, and_true, true_and, implies_true, and_self, eq_self]
      exact lw_same H HI hJ (lw_sb _ _) kp hF (fun a => absurd a (by decide)) (by decide)
    · by_cases w2 : lw_v q (pb_f cu (8 * c) 8) r ≤ 9999
      · simp (disch := omega) only [wpX_put, wpX_isClient, wpX_isRow, hc, hc', hr, hr', w1, w2, p0, lw_neg, pl_nq, pl_cc, pl_vc, pl_le8, pl_le32, pl_lt64, pl_lt1, pl_lt8, pl_lt32, nI_pos, nI_pos', vp_in_nI, nI_clamp, nI_1, nI_leI, nI_ltI, nI_eq, forall_eq, true_implies, forall_const, not_true_eq_false, not_false_eq_true, false_implies, and_true, true_and, implies_true, and_self, eq_self]
        exact lw_same H HI hJ (lw_sb _ _) kp hF (fun a => absurd a (by decide)) (by decide)
      · simp (disch := omega) only [wpX_put, wpX_isClient, wpX_isRow, hc, hc', hr, hr', w1, w2, lw_neg, pl_nq, pl_cc, pl_vc, pl_le8, pl_le32, pl_lt64, pl_lt1, pl_lt8, pl_lt32, nI_pos, nI_pos', vp_in_nI, nI_clamp, nI_1, nI_leI, nI_ltI, nI_eq, forall_eq, true_implies, forall_const, not_true_eq_false, not_false_eq_true, false_implies, and_true, true_and, implies_true, and_self, eq_self]
        exact lw_same H HI hJ (lw_sb _ _) kp hF (fun a => absurd a (by decide)) (by decide)
  · have eC := HI.2.2.2.2.2.1 c t hc m1
    have lS : S t ≤ ck := (H.2.1 t lt).2.2
    rw [eC]
    obtain ⟨v1, v2⟩ := lw_vr (q := q) (s := S t) (r := r) (by omega) (by omega) q3
    by_cases p1 : ph c = 1
    · have f1 := (pl_ok1 ok p1).1
      have nS : ¬ nI (S t) = 0 := nI_ne0 (by omega) (by omega)
      have H' := pl_put H (c := c) (t := t) (r := r) (x := lw_v q (S t) r) (by omega) m1 p1 hr
      simp (disch := omega) only [wpX_put, wpX_isClient, wpX_isRow, wpX_clientCell, hc, hc', hr, hr', v1, v2, p1, nS, pl_nq, pl_cc, pl_vc, pl_le8, pl_le32, pl_lt64, pl_lt1, pl_lt8, pl_lt32, nI_pos, nI_pos', vp_in_nI, nI_clamp, nI_1, nI_leI, nI_ltI, nI_eq, forall_eq, true_implies, forall_const, not_true_eq_false, not_false_eq_true, false_implies, and_true, true_and, implies_true, and_self, eq_self]
      rw [lw_p1 l1, lw_2, nI_l (n := q) (by omega)]
      refine lw_sel (by omega) ?_
      have go : ∀ w0' w1' w2' w3', (∀ r', r' < 4 → lw_W w0' w1' w2' w3' r' = if r' = r then pb_put (lw_W w0 w1 w2 w3 r) (2 * (S t - 1)) 2 q else lw_W w0 w1 w2 w3 r') → ∃ n, wL_law_1027 post L xs0 J98 J197 (nI nc) (nI nr) w0' w1' w2' w3' o0 o1 o2 o3 cu rm be st (nI ck) kk aa bb op (nI c) dd r0 re 0 jj (nI r) pa pr 1 (nI (S t)) kc ks (nI nc) (nI nr) (nI nl) (nI nt) (nI ck) (nI bg) ph xs xp xq (upd xg (c * 8 + r) 1) (upd xv (c * 8 + r) (lw_v q (S t) r)) xf xl xc xh xw xz n bo de dn 1 := by
        intro w0' w1' w2' w3' hW
        exact lw_go H' (lw_i_put H hc m1 f1 hr q1 q3 hW HI) hJ (by omega) (fun t lt => Or.inl (kp t lt)) hF (fun a => absurd a (by decide)) (fun a => absurd a (by decide))
      have h4 : r = 0 ∨ r = 1 ∨ r = 2 ∨ r = 3 := by omega
      rcases h4 with e | e | e | e
      · subst e
        exact br_t rfl (go _ _ _ _ lw_W0)
      · subst e
        exact br_f (by decide) (br_t rfl (go _ _ _ _ lw_W1))
      · subst e
        exact br_f (by decide) (br_f (by decide) (br_t rfl (go _ _ _ _ lw_W2)))
      · subst e
        exact br_f (by decide) (br_f (by decide) (br_f (by decide) (go _ _ _ _ lw_W3)))
    · simp (disch := omega) only [wpX_put, wpX_isClient, wpX_isRow, hc, hc', hr, hr', v1, v2, p0, p1, pl_nq, pl_cc, pl_vc, pl_le8, pl_le32, pl_lt64, pl_lt1, pl_lt8, pl_lt32, nI_pos, nI_pos', vp_in_nI, nI_clamp, nI_1, nI_leI, nI_ltI, nI_eq, forall_eq, true_implies, forall_const, not_true_eq_false, not_false_eq_true, false_implies, and_true, true_and, implies_true, and_self, eq_self]
      exact lw_same H HI hJ (by omega) kp hF (fun a => absurd a (by decide)) (by decide)
/-! stamp -/
theorem lw_k3 (H : pl_R nc nr nl nt ck bg S P M ph xs xp xq xg xv xf xl xc xh xw xz ym yf ys yp yq yl yg yv) (HI : lw_I nc nr nt ck bg S P M yf yg yv w0 w1 w2 w3 o0 o1 o2 o3 cu rm be st) (kp : ∀ t, t < bg → lw_kp S yf bo de dn t) (hF : lw_F ck bo de dn) (hJ : lw_HJ nc nr jj J197) {c : Nat} (hc : c < nc) : wL_law_465 post L xs0 J98 J197 (nI nc) (nI nr) w0 w1 w2 w3 o0 o1 o2 o3 cu rm be bo de dn st (nI ck) kk aa bb op (nI c) dd r0 re jj rr pa pr 3 kc ks (nI nc) (nI nr) (nI nl) (nI nt) (nI ck) (nI bg) ph xs xp xq xg xv xf xl xc xh xw xz := by
  have hb := pl_b H
  have hc' : ¬ nc ≤ c := by omega
  have i16 := HI.2.2.1
  unfold wL_law_465
  refine lw_at (by omega) (br_f (by decide) (br_f (by decide) (br_f (by decide) (br_t rfl ?_))))
  rcases pl_cl H (c := c) (by omega) with ⟨m0, p0, _⟩ | ⟨t, m1, lt, p0, em, es, et, l1, l2, ef, ok, eq, eq', eg, _⟩
  · simp (disch := omega) only [wpX_stamp, wpX_isClient, hc, hc', p0, lw_neg, pl_nq, pl_cc, pl_vc, pl_le8, pl_le32, pl_lt64, pl_lt1, pl_lt8, pl_lt32, nI_pos, nI_pos', vp_in_nI, nI_clamp, nI_1, nI_leI, nI_ltI, nI_eq, forall_eq, true_implies, forall_const, not_true_eq_false, not_false_eq_true, false_implies, and_true, true_and, implies_true, and_self, eq_self]
    exact lw_same H HI hJ (lw_sb _ _) kp hF (fun a => absurd a (by decide)) (by decide)
  · have eC := HI.2.2.2.2.2.1 c t hc m1
    by_cases p2 : ph c = 2
    · obtain ⟨hf, hP⟩ := pl_ok2 ok p2
      have H' := pl_stamp H (c := c) (by omega) m1 p2
      have hb' := pl_b H'
      have lS : S t ≤ ck := (H.2.1 t lt).2.2
      simp (disch := omega) only [wpX_stamp, wpX_isClient, wpX_drawTimestamp, wpX_drawTimestamp_2, hc, hc', p2, pl_nq, pl_cc, pl_vc, pl_le8, pl_le32, pl_lt64, pl_lt1, pl_lt8, pl_lt32, nI_pos, nI_pos', vp_in_nI, nI_clamp, nI_1, nI_leI, nI_ltI, nI_eq, forall_eq, true_implies, forall_const, not_true_eq_false, not_false_eq_true, false_implies, and_true, true_and, implies_true, and_self, eq_self]
      refine px_hp (by omega) (by omega) (fun r lr g1 => ?_) (fun hz => ?_)
      · simp (disch := omega) only [lw_neg, pl_nq, pl_cc, pl_vc, pl_le8, pl_le32, pl_lt64, pl_lt1, pl_lt8, pl_lt32, nI_pos, nI_pos', vp_in_nI, nI_clamp, nI_1, nI_leI, nI_ltI, nI_eq, forall_eq, true_implies, forall_const, not_true_eq_false, not_false_eq_true, false_implies, and_true, true_and, implies_true, and_self, eq_self]
        exact lw_same H HI hJ (lw_sb _ _) kp hF (fun a => absurd a (by decide)) (by decide)
      · have q1 : ¬ nI (ck + 1) ≤ 0 := nI_nle (by omega) (by omega)
        have q2 : ¬ ck + 1 ≤ ck := by omega
        have q3 : ¬ (32 : Int32) < nI (ck + 1) := nI_nlt (a := 32) (by omega) (by decide)
        have nS : ¬ nI (S t) = 0 := nI_ne0 (by omega) (by omega)
        have sb : pb_g st (S t) = false := by
          cases h : pb_g st (S t) with
          | true => exact absurd hP (((HI.2.2.2.2.1).1 t lt).mp h)
          | false => rfl
        have tb := (pb_tst2 st (s := S t) (by omega)).mpr sb
        have hg : ∀ r, r < 8 → ¬ yg (t * 8 + r) = 1 := by
          intro r lr
          by_cases l : r < nr
          · have y := hz r l
            rw [(eg r lr).1] at y
            exact y
          · have y := H.2.2.2.2.2.2.1 t r (by omega) (by omega) lr
            rw [y]
            decide
        have f3 : ¬ yf t = 3 := by
          rcases hf with y | y
          · rw [y]; decide
          · rw [y]; decide
        have d1 : nI (ck + 1) - 1 = nI ck := nI_pred ck
        simp (disch := omega) only [eC, q1, q2, q3, nS, tb, pl_us, d1, lw_s3, lw_a7, pl_nq, pl_cc, pl_vc, pl_le8, pl_le32, pl_lt64, pl_lt1, pl_lt8, pl_lt32, nI_pos, nI_pos', vp_in_nI, nI_clamp, nI_1, nI_leI, nI_ltI, nI_eq, forall_eq, true_implies, forall_const, not_true_eq_false, not_false_eq_true, false_implies, and_true, true_and, implies_true, and_self, eq_self]
        refine lw_sel (by omega) ?_
        refine lw_with (c := ck % 8) (v := S t) (by omega) ?_
        have go : ∀ o0' o1' o2' o3', (∀ g, g < 4 → lw_W o0' o1' o2' o3' g = if g = ck / 8 then pb_put (lw_W o0 o1 o2 o3 (ck / 8)) (8 * (ck % 8)) 8 (S t) else lw_W o0 o1 o2 o3 g) → ∃ n, wL_law_1027 post L xs0 J98 J197 (nI nc) (nI nr) w0 w1 w2 w3 o0' o1' o2' o3' cu rm be (st ||| ((1 : Int64) <<< ((nI (S t)).toInt64 &&& 63))) (nI (ck + 1)) kk aa bb op (nI c) dd r0 re (nI (ck + 1)) jj rr pa pr 3 (nI (S t)) kc ks (nI nc) (nI nr) (nI nl) (nI nt) (nI (ck + 1)) (nI bg) (upd ph c 3) xs (upd xp c (nI (ck + 1))) xq xg xv xf xl xc xh xw xz n bo de dn 1 := by
          intro o0' o1' o2' o3' hO
          refine lw_go H' (lw_i_stamp H hc m1 hP (by omega) f3 hg hO HI) hJ (by omega) (fun t lt => Or.inl (kp t lt)) (fun i a b => hF i (by omega) b) (fun a => absurd a (by decide)) (fun a => ?_)
          exact absurd (by rw [a]; decide : nI (ck + 1) < 0) (nI_pos (by omega))
        have h4 : ck / 8 = 0 ∨ ck / 8 = 1 ∨ ck / 8 = 2 ∨ ck / 8 = 3 := by omega
        rcases h4 with e | e | e | e
        · rw [e] at go ⊢
          exact br_t rfl (go _ _ _ _ lw_W0)
        · rw [e] at go ⊢
          exact br_f (by decide) (br_t rfl (go _ _ _ _ lw_W1))
        · rw [e] at go ⊢
          exact br_f (by decide) (br_f (by decide) (br_t rfl (go _ _ _ _ lw_W2)))
        · rw [e] at go ⊢
          exact br_f (by decide) (br_f (by decide) (br_f (by decide) (go _ _ _ _ lw_W3)))
    · simp (disch := omega) only [wpX_stamp, wpX_isClient, hc, hc', p0, p2, lw_neg, pl_nq, pl_cc, pl_vc, pl_le8, pl_le32, pl_lt64, pl_lt1, pl_lt8, pl_lt32, nI_pos, nI_pos', vp_in_nI, nI_clamp, nI_1, nI_leI, nI_ltI, nI_eq, forall_eq, true_implies, forall_const, not_true_eq_false, not_false_eq_true, false_implies, and_true, true_and, implies_true, and_self, eq_self]
      exact lw_same H HI hJ (lw_sb _ _) kp hF (fun a => absurd a (by decide)) (by decide)
end LWF
