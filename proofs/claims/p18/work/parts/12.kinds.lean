section LWE
variable {nc nr nl nt ck bg : Nat} {S P M : Nat → Nat} {ph xs xp xq xg xv xf xl xc xh xw xz ym yf ys yp yq yl yg yv : Nat → Int32}
variable {w0 w1 w2 w3 o0 o1 o2 o3 cu rm be bo de dn st : Int64} {kk aa bb op cc dd r0 re an jj rr pa pr kd : Int32} {kc ks L s : Nat} {xs0 : Nat → Int32} {post : Int32 → Prop} {J98 : lw_T98} {J197 : lw_T197}
/-- the state at the head of a round of the inner loop -/
def lw_Jv (nc nr : Nat) (w0 w1 w2 w3 o0 o1 o2 o3 cu rm be bo de dn st : Int64) (la f0 f1 f2 f3 f4 f5 : Int32) (ph xs xp xq xg xv xf xl xc xh xw xz : Nat → Int32) : Prop :=
  ∃ (nl nt ck bg : Nat) (S P M : Nat → Nat) (ym yf ys yp yq yl yg yv : Nat → Int32), la = nI ck ∧ f0 = nI nc ∧ f1 = nI nr ∧ f2 = nI nl ∧ f3 = nI nt ∧ f4 = nI ck ∧ f5 = nI bg ∧ pl_R nc nr nl nt ck bg S P M ph xs xp xq xg xv xf xl xc xh xw xz ym yf ys yp yq yl yg yv ∧ lw_I nc nr nt ck bg S P M yf yg yv w0 w1 w2 w3 o0 o1 o2 o3 cu rm be st ∧ (∀ t, t < bg → lw_kp S yf bo de dn t) ∧ lw_F ck bo de dn
theorem lw_jm (H : pl_R nc nr nl nt ck bg S P M ph xs xp xq xg xv xf xl xc xh xw xz ym yf ys yp yq yl yg yv) (HI : lw_I nc nr nt ck bg S P M yf yg yv w0 w1 w2 w3 o0 o1 o2 o3 cu rm be st) (kp : ∀ t, t < bg → lw_kp S yf bo de dn t) (hF : lw_F ck bo de dn) : lw_Jv nc nr w0 w1 w2 w3 o0 o1 o2 o3 cu rm be bo de dn st (nI ck) (nI nc) (nI nr) (nI nl) (nI nt) (nI ck) (nI bg) ph xs xp xq xg xv xf xl xc xh xw xz :=
  ⟨nl, nt, ck, bg, S, P, M, ym, yf, ys, yp, yq, yl, yg, yv, rfl, rfl, rfl, rfl, rfl, rfl, rfl, H, HI, kp, hF⟩
def lw_HJ (nc nr : Nat) (jj : Int32) (J197 : lw_T197) : Prop :=
  ∀ (w0 w1 w2 w3 o0 o1 o2 o3 cu rm be bo de dn st : Int64) (la an f0 f1 f2 f3 f4 f5 : Int32) (ph xs xp xq xg xv xf xl xc xh xw xz : Nat → Int32), lw_Jv nc nr w0 w1 w2 w3 o0 o1 o2 o3 cu rm be bo de dn st la f0 f1 f2 f3 f4 f5 ph xs xp xq xg xv xf xl xc xh xw xz → J197 w0 w1 w2 w3 o0 o1 o2 o3 cu rm be bo de dn st la an (jj + 1) f0 f1 f2 f3 f4 f5 ph xs xp xq xg xv xf xl xc xh xw xz
/-- behind the call: the checks, and on to the next round -/
theorem lw_go (H : pl_R nc nr nl nt ck bg S P M ph xs xp xq xg xv xf xl xc xh xw xz ym yf ys yp yq yl yg yv) (HI : lw_I nc nr nt ck bg S P M yf yg yv w0 w1 w2 w3 o0 o1 o2 o3 cu rm be st) (hJ : lw_HJ nc nr jj J197) (hs : s < 256)
    (hst : ∀ t, t < bg → lw_sta nr S P yf yg bo de dn rm kd an s rr pr pa t) (hF : lw_F ck bo de dn)
    (hC : kd = 4 → an = 0 → ∃ t, t < bg ∧ S t = s ∧ yf t = 3) (hD : an = -11 → ∃ t, t < bg ∧ S t = s ∧ yf t = 4) : ∃ n, wL_law_1027 post L xs0 J98 J197 (nI nc) (nI nr) w0 w1 w2 w3 o0 o1 o2 o3 cu rm be st (nI ck) kk aa bb op cc dd r0 re an jj rr pa pr kd (nI s) kc ks (nI nc) (nI nr) (nI nl) (nI nt) (nI ck) (nI bg) ph xs xp xq xg xv xf xl xc xh xw xz n bo de dn 1 := by
  refine ⟨ck + 1, ?_⟩
  exact lw_fl H HI hs hC hD (fun bo de dn kp hF => hJ _ _ _ _ _ _ _ _ _ _ _ _ _ _ _ _ _ _ _ _ _ _ _ _ _ _ _ _ _ _ _ _ _ _ _ (lw_jm H HI kp hF)) ck 1 bo de dn (by omega) (Nat.le_refl 1) (fun t lt => Or.inr ⟨(H.2.1 t lt).2.1, hst t lt⟩) hF
theorem lw_same (H : pl_R nc nr nl nt ck bg S P M ph xs xp xq xg xv xf xl xc xh xw xz ym yf ys yp yq yl yg yv) (HI : lw_I nc nr nt ck bg S P M yf yg yv w0 w1 w2 w3 o0 o1 o2 o3 cu rm be st) (hJ : lw_HJ nc nr jj J197) (hs : s < 256)
    (kp : ∀ t, t < bg → lw_kp S yf bo de dn t) (hF : lw_F ck bo de dn) (h4 : kd = 4 → ¬ an = 0) (h11 : ¬ an = -11) : ∃ n, wL_law_1027 post L xs0 J98 J197 (nI nc) (nI nr) w0 w1 w2 w3 o0 o1 o2 o3 cu rm be st (nI ck) kk aa bb op cc dd r0 re an jj rr pa pr kd (nI s) kc ks (nI nc) (nI nr) (nI nl) (nI nt) (nI ck) (nI bg) ph xs xp xq xg xv xf xl xc xh xw xz n bo de dn 1 :=
  lw_go H HI hJ hs (fun t lt => Or.inl (kp t lt)) hF (fun a b => absurd b (h4 a)) (fun a => absurd a h11)
theorem lw_neg : ((-2 : Int32) ≤ 0) ∧ ((-3 : Int32) ≤ 0) ∧ ((-4 : Int32) ≤ 0) ∧ ((-5 : Int32) ≤ 0) ∧ ((-6 : Int32) ≤ 0) ∧ ((-2 : Int32) < -1) ∧ ((-3 : Int32) < -1) ∧ ((-9 : Int32) < -1) ∧ (¬ (-2 : Int32) = 0) ∧ (¬ (-3 : Int32) = 0) := by decide
theorem lw_sb (x : Int64) (k : Nat) : pb_f x k 8 < 256 := pb_fl x k 8
/-! begin -/
theorem lw_k0 (H : pl_R nc nr nl nt ck bg S P M ph xs xp xq xg xv xf xl xc xh xw xz ym yf ys yp yq yl yg yv) (HI : lw_I nc nr nt ck bg S P M yf yg yv w0 w1 w2 w3 o0 o1 o2 o3 cu rm be st) (kp : ∀ t, t < bg → lw_kp S yf bo de dn t) (hF : lw_F ck bo de dn) (hJ : lw_HJ nc nr jj J197) {c : Nat} (hc : c < nc) : wL_law_465 post L xs0 J98 J197 (nI nc) (nI nr) w0 w1 w2 w3 o0 o1 o2 o3 cu rm be bo de dn st (nI ck) kk aa bb op (nI c) dd r0 re jj rr pa pr 0 kc ks (nI nc) (nI nr) (nI nl) (nI nt) (nI ck) (nI bg) ph xs xp xq xg xv xf xl xc xh xw xz := by
  have hb := pl_b H
  have hc' : ¬ nc ≤ c := by omega
  have i16 := HI.2.2.1
  unfold wL_law_465
  refine lw_at (by omega) (br_t rfl ?_)
  rcases pl_cl H (c := c) (by omega) with ⟨m0, p0, _⟩ | ⟨t, m1, lt, p0, _⟩
  · by_cases l : bg < nt
    · have H' := pl_beg H (c := c) (by omega) m0 l
      have hb' := pl_b H'
      have HI' := lw_i_beg H hc l HI
      have q1 : ¬ nI (ck + 1) ≤ 0 := nI_nle (by omega) (by omega)
      have q2 : ¬ ck + 1 ≤ ck := by omega
      have q3 : nI (ck + 1) ≤ (32 : Int32) := nI_le (b := 32) (by omega) (by decide)
      simp (disch := omega) only [wpX_begin, wpX_isClient, wpX_drawTimestamp, wpX_drawTimestamp_2, hc, hc', p0, l, q1, q2, q3, pl_nq, pl_cc, pl_vc, pl_le8, pl_le32, pl_lt64, pl_lt1, pl_lt8, pl_lt32, nI_pos, nI_pos', vp_in_nI, nI_clamp, nI_1, nI_leI, nI_ltI, nI_eq, forall_eq, true_implies, forall_const, not_true_eq_false, not_false_eq_true, false_implies, and_true, true_and, implies_true, and_self, eq_self]
      refine lw_with (c := c) (v := ck + 1) (by omega) ?_
      refine lw_go H' HI' hJ (by omega) (fun t lt => Or.inl ?_) (fun i l1 l2 => hF i (by omega) l2) (fun a => absurd a (by decide)) (fun a => ?_)
      · unfold lw_kp
        by_cases e : t = bg
        · subst e
          rw [pl_us, pl_ns]
          exact Or.inl ⟨rfl, hF (ck + 1) (by omega) (by omega)⟩
        · rw [pl_un e, pl_nn e]
          exact kp t (by omega)
      · exact absurd (by rw [a]; decide : nI (ck + 1) < 0) (nI_pos (by omega))
    · simp (disch := omega) only [wpX_begin, wpX_isClient, hc, hc', p0, l, lw_neg, pl_nq, pl_cc, pl_vc, pl_le8, pl_le32, pl_lt64, pl_lt1, pl_lt8, pl_lt32, nI_pos, nI_pos', vp_in_nI, nI_clamp, nI_1, nI_leI, nI_ltI, nI_eq, forall_eq, true_implies, forall_const, not_true_eq_false, not_false_eq_true, false_implies, and_true, true_and, implies_true, and_self, eq_self]
      exact lw_same H HI hJ (lw_sb _ _) kp hF (fun a => absurd a (by decide)) (by decide)
  · simp (disch := omega) only [wpX_begin, wpX_isClient, hc, hc', p0, lw_neg, pl_nq, pl_cc, pl_vc, pl_le8, pl_le32, pl_lt64, pl_lt1, pl_lt8, pl_lt32, nI_pos, nI_pos', vp_in_nI, nI_clamp, nI_1, nI_leI, nI_ltI, nI_eq, forall_eq, true_implies, forall_const, not_true_eq_false, not_false_eq_true, false_implies, and_true, true_and, implies_true, and_self, eq_self]
    exact lw_same H HI hJ (lw_sb _ _) kp hF (fun a => absurd a (by decide)) (by decide)
/-! tick -/
theorem lw_k6 (H : pl_R nc nr nl nt ck bg S P M ph xs xp xq xg xv xf xl xc xh xw xz ym yf ys yp yq yl yg yv) (HI : lw_I nc nr nt ck bg S P M yf yg yv w0 w1 w2 w3 o0 o1 o2 o3 cu rm be st) (kp : ∀ t, t < bg → lw_kp S yf bo de dn t) (hF : lw_F ck bo de dn) (hJ : lw_HJ nc nr jj J197) {c : Nat} (hc : c < nc) : wL_law_465 post L xs0 J98 J197 (nI nc) (nI nr) w0 w1 w2 w3 o0 o1 o2 o3 cu rm be bo de dn st (nI ck) kk aa bb op (nI c) dd r0 re jj rr pa pr 6 kc ks (nI nc) (nI nr) (nI nl) (nI nt) (nI ck) (nI bg) ph xs xp xq xg xv xf xl xc xh xw xz := by
  have hb := pl_b H
  have tk : ∀ n : Int32, wL_law_969 post L xs0 J98 J197 (nI nc) (nI nr) w0 w1 w2 w3 o0 o1 o2 o3 cu rm be bo de dn st (nI ck) kk aa bb op (nI c) dd r0 re jj rr pa pr 6 (nI (pb_f cu (8 * c) 8)) n kc ks (nI nc) (nI nr) (nI nl) (nI nt) (nI ck) (nI bg) ph xs xp xq xg xv xf xl xc xh xw xz := by
    intro n
    unfold wL_law_969
    by_cases h : 1 ≤ n
    · refine br_t h ⟨65, ?_⟩
      rw [← pl_xt_1 (n := n) (xf := xf) (xl := xl)]
      refine px_tkl ?_ 64 1 (by decide) (by decide)
      exact lw_go (pl_tick H n) HI hJ (lw_sb _ _) (fun t lt => Or.inl (kp t lt)) hF (fun a => absurd a (by decide)) (fun a => absurd a (by decide))
    · refine br_f h ?_
      exact lw_same H HI hJ (lw_sb _ _) kp hF (fun a => absurd a (by decide)) (by decide)
  unfold wL_law_465
  refine lw_at (by omega) (br_f (by decide) (br_f (by decide) (br_f (by decide) (br_f (by decide) (br_f (by decide) (br_f (by decide) (br_t rfl ?_)))))))
  exact br_c (fun _ => ⟨by decide, tk _⟩) (fun _ => tk _)
/-! heartbeat, crash, abandon -/
theorem lw_k7 (H : pl_R nc nr nl nt ck bg S P M ph xs xp xq xg xv xf xl xc xh xw xz ym yf ys yp yq yl yg yv) (HI : lw_I nc nr nt ck bg S P M yf yg yv w0 w1 w2 w3 o0 o1 o2 o3 cu rm be st) (kp : ∀ t, t < bg → lw_kp S yf bo de dn t) (hF : lw_F ck bo de dn) (hJ : lw_HJ nc nr jj J197) {c : Nat} (hc : c < nc) : wL_law_465 post L xs0 J98 J197 (nI nc) (nI nr) w0 w1 w2 w3 o0 o1 o2 o3 cu rm be bo de dn st (nI ck) kk aa bb op (nI c) dd r0 re jj rr pa pr 7 kc ks (nI nc) (nI nr) (nI nl) (nI nt) (nI ck) (nI bg) ph xs xp xq xg xv xf xl xc xh xw xz := by
  have hb := pl_b H
  have hc' : ¬ nc ≤ c := by omega
  unfold wL_law_465
  refine lw_at (by omega) (br_f (by decide) (br_f (by decide) (br_f (by decide) (br_f (by decide) (br_f (by decide) (br_f (by decide) (br_f (by decide) (br_t rfl ?_))))))))
  rcases pl_cl H (c := c) (by omega) with ⟨m0, p0, _⟩ | ⟨t, m1, lt, p0, em, es, et, l1, l2, ef, _⟩
  · simp (disch := omega) only [wpX_heartbeat, wpX_isClient, hc, hc', p0, pl_nq, pl_cc, pl_vc, pl_le8, pl_le32, pl_lt64, pl_lt1, pl_lt8, pl_lt32, nI_pos, nI_pos', vp_in_nI, nI_clamp, nI_1, nI_leI, nI_ltI, nI_eq, forall_eq, true_implies, forall_const, not_true_eq_false, not_false_eq_true, false_implies, and_true, true_and, implies_true, and_self, eq_self]
    exact lw_same H HI hJ (lw_sb _ _) kp hF (fun a => absurd a (by decide)) (by decide)
  · have eC := HI.2.2.2.2.2.1 c t hc m1
    by_cases p1 : ph c = 1
    · simp (disch := omega) only [wpX_heartbeat, wpX_isClient, hc, hc', p1, pl_nq, pl_cc, pl_vc, pl_le8, pl_le32, pl_lt64, pl_lt1, pl_lt8, pl_lt32, nI_pos, nI_pos', vp_in_nI, nI_clamp, nI_1, nI_leI, nI_ltI, nI_eq, forall_eq, true_implies, forall_const, not_true_eq_false, not_false_eq_true, false_implies, and_true, true_and, implies_true, and_self, eq_self]
      exact lw_same H HI hJ (lw_sb _ _) kp hF (fun a => absurd a (by decide)) (by decide)
    · by_cases p4 : ph c = 4
      · simp (disch := omega) only [wpX_heartbeat, wpX_isClient, hc, hc', p4, pl_nq, pl_cc, pl_vc, pl_le8, pl_le32, pl_lt64, pl_lt1, pl_lt8, pl_lt32, nI_pos, nI_pos', vp_in_nI, nI_clamp, nI_1, nI_leI, nI_ltI, nI_eq, forall_eq, true_implies, forall_const, not_true_eq_false, not_false_eq_true, false_implies, and_true, true_and, implies_true, and_self, eq_self]
        exact lw_same H HI hJ (lw_sb _ _) kp hF (fun a => absurd a (by decide)) (by decide)
      · by_cases f4 : yf t = 4
        · simp (disch := omega) only [wpX_heartbeat, wpX_isClient, hc, hc', p0, p1, p4, es, ef, f4, pl_nq, pl_cc, pl_vc, pl_le8, pl_le32, pl_lt64, pl_lt1, pl_lt8, pl_lt32, nI_pos, nI_pos', vp_in_nI, nI_clamp, nI_1, nI_leI, nI_ltI, nI_eq, forall_eq, true_implies, forall_const, not_true_eq_false, not_false_eq_true, false_implies, and_true, true_and, implies_true, and_self, eq_self]
          exact lw_go H HI hJ (lw_sb _ _) (fun t lt => Or.inl (kp t lt)) hF (fun a => absurd a (by decide)) (fun _ => ⟨t, lt, eC.symm, f4⟩)
        · simp (disch := omega) only [wpX_heartbeat, wpX_isClient, hc, hc', p0, p1, p4, es, ef, f4, pl_nq, pl_cc, pl_vc, pl_le8, pl_le32, pl_lt64, pl_lt1, pl_lt8, pl_lt32, nI_pos, nI_pos', vp_in_nI, nI_clamp, nI_1, nI_leI, nI_ltI, nI_eq, forall_eq, true_implies, forall_const, not_true_eq_false, not_false_eq_true, false_implies, and_true, true_and, implies_true, and_self, eq_self]
          exact lw_go (pl_beat H lt) HI hJ (lw_sb _ _) (fun t lt => Or.inl (kp t lt)) hF (fun a => absurd a (by decide)) (fun a => absurd a (by decide))
theorem lw_k8 (H : pl_R nc nr nl nt ck bg S P M ph xs xp xq xg xv xf xl xc xh xw xz ym yf ys yp yq yl yg yv) (HI : lw_I nc nr nt ck bg S P M yf yg yv w0 w1 w2 w3 o0 o1 o2 o3 cu rm be st) (kp : ∀ t, t < bg → lw_kp S yf bo de dn t) (hF : lw_F ck bo de dn) (hJ : lw_HJ nc nr jj J197) {c : Nat} (hc : c < nc) : wL_law_465 post L xs0 J98 J197 (nI nc) (nI nr) w0 w1 w2 w3 o0 o1 o2 o3 cu rm be bo de dn st (nI ck) kk aa bb op (nI c) dd r0 re jj rr pa pr 8 kc ks (nI nc) (nI nr) (nI nl) (nI nt) (nI ck) (nI bg) ph xs xp xq xg xv xf xl xc xh xw xz := by
  have hb := pl_b H
  have hc' : ¬ nc ≤ c := by omega
  unfold wL_law_465
  refine lw_at (by omega) (br_f (by decide) (br_f (by decide) (br_f (by decide) (br_f (by decide) (br_f (by decide) (br_f (by decide) (br_f (by decide) (br_f (by decide) (br_t rfl ?_)))))))))
  rcases pl_cl H (c := c) (by omega) with ⟨m0, p0, _⟩ | ⟨t, m1, lt, p0, _⟩
  · simp (disch := omega) only [wpX_crash, wpX_isClient, hc, hc', p0, pl_nq, pl_cc, pl_vc, pl_le8, pl_le32, pl_lt64, pl_lt1, pl_lt8, pl_lt32, nI_pos, nI_pos', vp_in_nI, nI_clamp, nI_1, nI_leI, nI_ltI, nI_eq, forall_eq, true_implies, forall_const, not_true_eq_false, not_false_eq_true, false_implies, and_true, true_and, implies_true, and_self, eq_self]
    exact lw_same H HI hJ (lw_sb _ _) kp hF (fun a => absurd a (by decide)) (by decide)
  · simp (disch := omega) only [wpX_crash, wpX_isClient, hc, hc', p0, pl_nq, pl_cc, pl_vc, pl_le8, pl_le32, pl_lt64, pl_lt1, pl_lt8, pl_lt32, nI_pos, nI_pos', vp_in_nI, nI_clamp, nI_1, nI_leI, nI_ltI, nI_eq, forall_eq, true_implies, forall_const, not_true_eq_false, not_false_eq_true, false_implies, and_true, true_and, implies_true, and_self, eq_self]
    refine px_idle (by omega) ?_
    exact lw_go (pl_idle H (c := c) (by omega)) (lw_i_idle (c := c) HI) hJ (lw_sb _ _) (fun t lt => Or.inl (kp t lt)) hF (fun a => absurd a (by decide)) (fun a => absurd a (by decide))
theorem lw_k9 (H : pl_R nc nr nl nt ck bg S P M ph xs xp xq xg xv xf xl xc xh xw xz ym yf ys yp yq yl yg yv) (HI : lw_I nc nr nt ck bg S P M yf yg yv w0 w1 w2 w3 o0 o1 o2 o3 cu rm be st) (kp : ∀ t, t < bg → lw_kp S yf bo de dn t) (hF : lw_F ck bo de dn) (hJ : lw_HJ nc nr jj J197) {c : Nat} (hc : c < nc) : wL_law_465 post L xs0 J98 J197 (nI nc) (nI nr) w0 w1 w2 w3 o0 o1 o2 o3 cu rm be bo de dn st (nI ck) kk aa bb op (nI c) dd r0 re jj rr pa pr 9 kc ks (nI nc) (nI nr) (nI nl) (nI nt) (nI ck) (nI bg) ph xs xp xq xg xv xf xl xc xh xw xz := by
  have hb := pl_b H
  have hc' : ¬ nc ≤ c := by omega
  unfold wL_law_465
  refine lw_at (by omega) (br_f (by decide) (br_f (by decide) (br_f (by decide) (br_f (by decide) (br_f (by decide) (br_f (by decide) (br_f (by decide) (br_f (by decide) (br_f (by decide) ?_)))))))))
  rcases pl_cl H (c := c) (by omega) with ⟨m0, p0, _⟩ | ⟨t, m1, lt, p0, em, es, et, l1, l2, ef, _⟩
  · simp (disch := omega) only [wpX_abandon, wpX_isClient, hc, hc', p0, pl_nq, pl_cc, pl_vc, pl_le8, pl_le32, pl_lt64, pl_lt1, pl_lt8, pl_lt32, nI_pos, nI_pos', vp_in_nI, nI_clamp, nI_1, nI_leI, nI_ltI, nI_eq, forall_eq, true_implies, forall_const, not_true_eq_false, not_false_eq_true, false_implies, and_true, true_and, implies_true, and_self, eq_self]
    exact lw_same H HI hJ (lw_sb _ _) kp hF (fun a => absurd a (by decide)) (by decide)
  · have eC := HI.2.2.2.2.2.1 c t hc m1
    by_cases p4 : ph c = 4
    · simp (disch := omega) only [wpX_abandon, wpX_isClient, hc, hc', p4, pl_nq, pl_cc, pl_vc, pl_le8, pl_le32, pl_lt64, pl_lt1, pl_lt8, pl_lt32, nI_pos, nI_pos', vp_in_nI, nI_clamp, nI_1, nI_leI, nI_ltI, nI_eq, forall_eq, true_implies, forall_const, not_true_eq_false, not_false_eq_true, false_implies, and_true, true_and, implies_true, and_self, eq_self]
      exact lw_same H HI hJ (lw_sb _ _) kp hF (fun a => absurd a (by decide)) (by decide)
    · have H' := pl_idle H (c := c) (by omega)
      have HI' := lw_i_idle (c := c) HI
      by_cases f4 : yf t = 4
      · simp (disch := omega) only [wpX_abandon, wpX_isClient, hc, hc', p0, p4, es, pl_nq, pl_cc, pl_vc, pl_le8, pl_le32, pl_lt64, pl_lt1, pl_lt8, pl_lt32, nI_pos, nI_pos', vp_in_nI, nI_clamp, nI_1, nI_leI, nI_ltI, nI_eq, forall_eq, true_implies, forall_const, not_true_eq_false, not_false_eq_true, false_implies, and_true, true_and, implies_true, and_self, eq_self]
        refine px_idle (by omega) ?_
        simp (disch := omega) only [ef, f4, pl_cc, pl_vc, pl_le8, pl_le32, pl_lt64, pl_lt1, pl_lt8, pl_lt32, nI_pos, nI_pos', vp_in_nI, nI_clamp, nI_1, nI_leI, nI_ltI, nI_eq, forall_eq, true_implies, forall_const, not_true_eq_false, not_false_eq_true, false_implies, and_true, true_and, implies_true, and_self, eq_self]
        exact lw_go H' HI' hJ (lw_sb _ _) (fun t lt => Or.inl (kp t lt)) hF (fun a => absurd a (by decide)) (fun _ => ⟨t, lt, eC.symm, f4⟩)
      · by_cases f2 : yf t = 2
        · simp (disch := omega) only [wpX_abandon, wpX_isClient, hc, hc', p0, p4, es, pl_nq, pl_cc, pl_vc, pl_le8, pl_le32, pl_lt64, pl_lt1, pl_lt8, pl_lt32, nI_pos, nI_pos', vp_in_nI, nI_clamp, nI_1, nI_leI, nI_ltI, nI_eq, forall_eq, true_implies, forall_const, not_true_eq_false, not_false_eq_true, false_implies, and_true, true_and, implies_true, and_self, eq_self]
          refine px_idle (by omega) ?_
          simp (disch := omega) only [ef, f2, pl_nq, pl_cc, pl_vc, pl_le8, pl_le32, pl_lt64, pl_lt1, pl_lt8, pl_lt32, nI_pos, nI_pos', vp_in_nI, nI_clamp, nI_1, nI_leI, nI_ltI, nI_eq, forall_eq, true_implies, forall_const, not_true_eq_false, not_false_eq_true, false_implies, and_true, true_and, implies_true, and_self, eq_self]
          refine px_roll (by omega) (by omega) ?_
          refine lw_go (pl_roll H' lt f2) (lw_i_fate HI' (Or.inl f2) (Or.inr (Or.inr rfl)) (fun y => absurd y (by decide)) (by rw [f2]; decide)) hJ (lw_sb _ _) (fun q lq => ?_) hF (fun a => absurd a (by decide)) (fun a => absurd a (by decide))
          by_cases e : q = t
          · subst e
            have b : lw_bt bo de dn (S q) true false false := by
              rcases kp q lt with ⟨y, _⟩ | ⟨_, y⟩ | ⟨y, _⟩ | ⟨y, _⟩
              · rw [y] at f2; exact absurd f2 (by decide)
              · exact y
              · rw [y] at f2; exact absurd f2 (by decide)
              · rw [y] at f2; exact absurd f2 (by decide)
            exact Or.inr (Or.inr (Or.inl ⟨pl_us, b, Or.inl ⟨rfl, eC.symm⟩⟩))
          · refine Or.inl ?_
            unfold lw_kp
            rw [pl_un e]
            exact kp q lq
        · simp (disch := omega) only [wpX_abandon, wpX_isClient, hc, hc', p0, p4, es, pl_nq, pl_cc, pl_vc, pl_le8, pl_le32, pl_lt64, pl_lt1, pl_lt8, pl_lt32, nI_pos, nI_pos', vp_in_nI, nI_clamp, nI_1, nI_leI, nI_ltI, nI_eq, forall_eq, true_implies, forall_const, not_true_eq_false, not_false_eq_true, false_implies, and_true, true_and, implies_true, and_self, eq_self]
          refine px_idle (by omega) ?_
          simp (disch := omega) only [ef, f4, f2, pl_cc, pl_vc, pl_le8, pl_le32, pl_lt64, pl_lt1, pl_lt8, pl_lt32, nI_pos, nI_pos', vp_in_nI, nI_clamp, nI_1, nI_leI, nI_ltI, nI_eq, forall_eq, true_implies, forall_const, not_true_eq_false, not_false_eq_true, false_implies, and_true, true_and, implies_true, and_self, eq_self]
          exact lw_go H' HI' hJ (lw_sb _ _) (fun t lt => Or.inl (kp t lt)) hF (fun a => absurd a (by decide)) (fun a => absurd a (by decide))
end LWE
