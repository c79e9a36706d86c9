section LWG
variable {nc nr nl nt ck bg : Nat} {S P M : Nat → Nat} {ph xs xp xq xg xv xf xl xc xh xw xz ym yf ys yp yq yl yg yv : Nat → Int32}
variable {w0 w1 w2 w3 o0 o1 o2 o3 cu rm be bo de dn st : Int64} {kk aa bb op cc dd r0 re an jj rr pa pr kd : Int32} {kc ks L s : Nat} {xs0 : Nat → Int32} {post : Int32 → Prop} {J98 : lw_T98} {J197 : lw_T197}
/-! commit -/
theorem lw_b2 {t : Nat} (k : lw_kp S yf bo de dn t) (f2 : yf t = 2) : lw_bt bo de dn (S t) true false false := by
  rcases k with ⟨y, _⟩ | ⟨_, y⟩ | ⟨y, _⟩ | ⟨y, _⟩
  · rw [y] at f2; exact absurd f2 (by decide)
  · exact y
  · rw [y] at f2; exact absurd f2 (by decide)
  · rw [y] at f2; exact absurd f2 (by decide)
/-- behind a row's commit: whether all are committed or not -/
theorem lw_cend (H : pl_R nc nr nl nt ck bg S P M ph xs xp xq xg xv xf xl xc xh xw xz ym yf ys yp yq yl yg yv) (HI : lw_I nc nr nt ck bg S P M yf yg yv w0 w1 w2 w3 o0 o1 o2 o3 cu rm be st) (hJ : lw_HJ nc nr jj J197) {c t : Nat} (hc : c < nc) (m1 : M c = t + 1) (f3 : yf t = 3)
    (hst : ∀ q, q < bg → lw_sta nr S P yf yg bo de dn rm 4 0 (pb_f cu (8 * c) 8) rr pr pa q) (hF : lw_F ck bo de dn) {Z : Int32 → St2 → Prop}
    (hZ1 : (∃ n, wL_law_1027 post L xs0 J98 J197 (nI nc) (nI nr) w0 w1 w2 w3 o0 o1 o2 o3 cu rm be st (nI ck) kk aa bb op (nI c) dd r0 re 0 jj rr pa pr 4 (nI (pb_f cu (8 * c) 8)) kc ks (nI nc) (nI nr) (nI nl) (nI nt) (nI ck) (nI bg) ph xs xp xq xg xv xf xl xc xh xw xz n bo de dn 1) → Z 0 (nI nc, nI nr, nI nl, nI nt, nI ck, nI bg, ph, xs, xp, xq, xg, xv, xf, xl, xc, xh, xw, xz))
    (hZ2 : (∃ n, wL_law_1027 post L xs0 J98 J197 (nI nc) (nI nr) w0 w1 w2 w3 o0 o1 o2 o3 cu rm be st (nI ck) kk aa bb op (nI c) dd r0 re 0 jj rr pa pr 4 (nI (pb_f cu (8 * c) 8)) kc ks (nI nc) (nI nr) (nI nl) (nI nt) (nI ck) (nI bg) (upd ph c 0) (upd xs c (-1)) (upd xp c (-1)) (upd xq c (-1)) (pl_zr c xg) xv xf xl xc xh xw xz n bo de dn 1) → Z 0 (nI nc, nI nr, nI nl, nI nt, nI ck, nI bg, upd ph c 0, upd xs c (-1), upd xp c (-1), upd xq c (-1), pl_zr c xg, xv, xf, xl, xc, xh, xw, xz)) :
    wX_commit_97 Z (nI c) 0 (nI nc) (nI nr) (nI nl) (nI nt) (nI ck) (nI bg) ph xs xp xq xg xv xf xl xc xh xw xz := by
  have hb := pl_b H
  have lt : t < bg := (H.2.2.2.2.2.2.2.2.2.1 c t (by omega) m1).1
  have eC := HI.2.2.2.2.2.1 c t hc m1
  simp (disch := omega) only [wX_commit_97, pl_cc, pl_vc, pl_le8, pl_le32, pl_lt64, pl_lt1, pl_lt8, pl_lt32, nI_pos, nI_pos', vp_in_nI, nI_clamp, nI_1, nI_leI, nI_ltI, nI_eq, forall_eq, true_implies, forall_const, not_true_eq_false, not_false_eq_true, false_implies, and_true, true_and, implies_true, and_self, eq_self]
  refine px_wc (by omega) (by omega) (fun r lr a b => ?_) (fun hz => ?_)
  · simp (disch := omega) only [pl_cc, pl_vc, pl_le8, pl_le32, pl_lt64, pl_lt1, pl_lt8, pl_lt32, nI_pos, nI_pos', vp_in_nI, nI_clamp, nI_1, nI_leI, nI_ltI, nI_eq, forall_eq, true_implies, forall_const, not_true_eq_false, not_false_eq_true, false_implies, and_true, true_and, implies_true, and_self, eq_self]
    exact hZ1 (lw_go H HI hJ (lw_sb _ _) hst hF (fun _ _ => ⟨t, lt, eC.symm, f3⟩) (fun a => absurd a (by decide)))
  · simp (disch := omega) only [pl_nq, pl_cc, pl_vc, pl_le8, pl_le32, pl_lt64, pl_lt1, pl_lt8, pl_lt32, nI_pos, nI_pos', vp_in_nI, nI_clamp, nI_1, nI_leI, nI_ltI, nI_eq, forall_eq, true_implies, forall_const, not_true_eq_false, not_false_eq_true, false_implies, and_true, true_and, implies_true, and_self, eq_self]
    refine px_idle (by omega) ?_
    exact hZ2 (lw_go (pl_idle H (c := c) (by omega)) (lw_i_idle (c := c) HI) hJ (lw_sb _ _) hst hF (fun _ _ => ⟨t, lt, eC.symm, f3⟩) (fun a => absurd a (by decide)))
theorem lw_k4 (H : pl_R nc nr nl nt ck bg S P M ph xs xp xq xg xv xf xl xc xh xw xz ym yf ys yp yq yl yg yv) (HI : lw_I nc nr nt ck bg S P M yf yg yv w0 w1 w2 w3 o0 o1 o2 o3 cu rm be st) (kp : ∀ t, t < bg → lw_kp S yf bo de dn t) (hF : lw_F ck bo de dn) (hJ : lw_HJ nc nr jj J197) {c : Nat} (hc : c < nc) (hpa : pa = ph c) (hpr : pr = xq c) : wL_law_465 post L xs0 J98 J197 (nI nc) (nI nr) w0 w1 w2 w3 o0 o1 o2 o3 cu rm be bo de dn st (nI ck) kk aa bb op (nI c) dd r0 re jj rr pa pr 4 kc ks (nI nc) (nI nr) (nI nl) (nI nt) (nI ck) (nI bg) ph xs xp xq xg xv xf xl xc xh xw xz := by
  have hb := pl_b H
  have hc' : ¬ nc ≤ c := by omega
  have i2 := HI.2.1
  have sm : ∀ a : Int32, ¬ a = 0 → ¬ a = -11 → ∃ n, wL_law_1027 post L xs0 J98 J197 (nI nc) (nI nr) w0 w1 w2 w3 o0 o1 o2 o3 cu rm be st (nI ck) kk aa bb op (nI c) dd r0 re a jj rr pa pr 4 (nI (pb_f cu (8 * c) 8)) kc ks (nI nc) (nI nr) (nI nl) (nI nt) (nI ck) (nI bg) ph xs xp xq xg xv xf xl xc xh xw xz n bo de dn 1 := fun a h0 h11 => lw_same H HI hJ (lw_sb _ _) kp hF (fun _ => h0) h11
  unfold wL_law_465
  refine lw_at (by omega) (br_f (by decide) (br_f (by decide) (br_f (by decide) (br_f (by decide) (br_t rfl ?_)))))
  rcases pl_ix rr (n := nr) (by omega) with h | ⟨h, h', h''⟩ | ⟨r, hr, rfl⟩
  · simp (disch := omega) only [wpX_commit, wpX_isClient, wpX_isRow, hc, hc', h, pl_nq, pl_cc, pl_vc, pl_le8, pl_le32, pl_lt64, pl_lt1, pl_lt8, pl_lt32, nI_pos, nI_pos', vp_in_nI, nI_clamp, nI_1, nI_leI, nI_ltI, nI_eq, forall_eq, true_implies, forall_const, not_true_eq_false, not_false_eq_true, false_implies, and_true, true_and, implies_true, and_self, eq_self]
    exact sm _ (by decide) (by decide)
  · simp (disch := omega) only [wpX_commit, wpX_isClient, wpX_isRow, hc, hc', h, h', pl_nq, pl_cc, pl_vc, pl_le8, pl_le32, pl_lt64, pl_lt1, pl_lt8, pl_lt32, nI_pos, nI_pos', vp_in_nI, nI_clamp, nI_1, nI_leI, nI_ltI, nI_eq, forall_eq, true_implies, forall_const, not_true_eq_false, not_false_eq_true, false_implies, and_true, true_and, implies_true, and_self, eq_self]
    exact sm _ (by decide) (by decide)
  · have hr' : ¬ nr ≤ r := by omega
    rcases pl_cl H (c := c) (by omega) with ⟨m0, p0, _⟩ | ⟨t, m1, lt, p0, em, es, et, l1, l2, ef, ok, eq, eq', eg, ep, ep', lp⟩
    · simp (disch := omega) only [wpX_commit, wpX_isClient, wpX_isRow, hc, hc', hr, hr', p0, pl_nq, pl_cc, pl_vc, pl_le8, pl_le32, pl_lt64, pl_lt1, pl_lt8, pl_lt32, nI_pos, nI_pos', vp_in_nI, nI_clamp, nI_1, nI_leI, nI_ltI, nI_eq, forall_eq, true_implies, forall_const, not_true_eq_false, not_false_eq_true, false_implies, and_true, true_and, implies_true, and_self, eq_self]
      exact sm _ (by decide) (by decide)
    · have eC := HI.2.2.2.2.2.1 c t hc m1
      by_cases p1 : ph c = 1
      · simp (disch := omega) only [wpX_commit, wpX_isClient, wpX_isRow, hc, hc', hr, hr', p1, pl_nq, pl_cc, pl_vc, pl_le8, pl_le32, pl_lt64, pl_lt1, pl_lt8, pl_lt32, nI_pos, nI_pos', vp_in_nI, nI_clamp, nI_1, nI_leI, nI_ltI, nI_eq, forall_eq, true_implies, forall_const, not_true_eq_false, not_false_eq_true, false_implies, and_true, true_and, implies_true, and_self, eq_self]
        exact sm _ (by decide) (by decide)
      · by_cases p2 : ph c = 2
        · simp (disch := omega) only [wpX_commit, wpX_isClient, wpX_isRow, hc, hc', hr, hr', p2, pl_nq, pl_cc, pl_vc, pl_le8, pl_le32, pl_lt64, pl_lt1, pl_lt8, pl_lt32, nI_pos, nI_pos', vp_in_nI, nI_clamp, nI_1, nI_leI, nI_ltI, nI_eq, forall_eq, true_implies, forall_const, not_true_eq_false, not_false_eq_true, false_implies, and_true, true_and, implies_true, and_self, eq_self]
          exact sm _ (by decide) (by decide)
        · have e0 := (eg r (by omega)).1
          by_cases g0 : yg (t * 8 + r) = 0
          · simp (disch := omega) only [wpX_commit, wpX_isClient, wpX_isRow, wpX_clientCell, hc, hc', hr, hr', p0, p1, p2, e0, g0, pl_nq, pl_cc, pl_vc, pl_le8, pl_le32, pl_lt64, pl_lt1, pl_lt8, pl_lt32, nI_pos, nI_pos', vp_in_nI, nI_clamp, nI_1, nI_leI, nI_ltI, nI_eq, forall_eq, true_implies, forall_const, not_true_eq_false, not_false_eq_true, false_implies, and_true, true_and, implies_true, and_self, eq_self]
            exact sm _ (by decide) (by decide)
          · by_cases p3 : ph c = 3
            · have p03 : ¬ (3 : Int32) = 0 := by decide
              by_cases eq1 : xq c = nI r
              · by_cases f4 : yf t = 4
                · simp (disch := omega) only [wpX_commit, wpX_isClient, wpX_isRow, wpX_clientCell, wpX_commitWhenStamped, hc, hc', hr, hr', p3, e0, g0, eq1, es, ef, f4, pl_nq, pl_cc, pl_vc, pl_le8, pl_le32, pl_lt64, pl_lt1, pl_lt8, pl_lt32, nI_pos, nI_pos', vp_in_nI, nI_clamp, nI_1, nI_leI, nI_ltI, nI_eq, forall_eq, true_implies, forall_const, not_true_eq_false, not_false_eq_true, false_implies, and_true, true_and, implies_true, and_self, eq_self]
                  refine px_idle (by omega) ?_
                  simp (disch := omega) only [wX_commit_97, pl_nq, pl_cc, pl_vc, pl_le8, pl_le32, pl_lt64, pl_lt1, pl_lt8, pl_lt32, nI_pos, nI_pos', vp_in_nI, nI_clamp, nI_1, nI_leI, nI_ltI, nI_eq, forall_eq, true_implies, forall_const, not_true_eq_false, not_false_eq_true, false_implies, and_true, true_and, implies_true, and_self, eq_self]
                  exact lw_go (pl_idle H (c := c) (by omega)) (lw_i_idle (c := c) HI) hJ (lw_sb _ _) (fun t lt => Or.inl (kp t lt)) hF (fun _ a => absurd a (by decide)) (fun _ => ⟨t, lt, eC.symm, f4⟩)
                · obtain ⟨of, oP⟩ := pl_ok3 ok p3
                  have f2 : yf t = 2 := of.elim id (fun y => absurd y f4)
                  rw [if_neg oP] at ep
                  simp (disch := omega) only [wpX_commit, wpX_isClient, wpX_isRow, wpX_clientCell, wpX_commitWhenStamped, hc, hc', hr, hr', p3, e0, g0, eq1, es, ef, f4, ep, pl_nq, pl_cc, pl_vc, pl_le8, pl_le32, pl_lt64, pl_lt1, pl_lt8, pl_lt32, nI_pos, nI_pos', vp_in_nI, nI_clamp, nI_1, nI_leI, nI_ltI, nI_eq, forall_eq, true_implies, forall_const, not_true_eq_false, not_false_eq_true, false_implies, and_true, true_and, implies_true, and_self, eq_self]
                  refine px_av (by omega) (by omega) lp ep (fun w z hA => ?_)
                  refine px_eh (by omega) ?_
                  simp (disch := omega) only [pl_cc, pl_vc, pl_le8, pl_le32, pl_lt64, pl_lt1, pl_lt8, pl_lt32, nI_pos, nI_pos', vp_in_nI, nI_clamp, nI_1, nI_leI, nI_ltI, nI_eq, forall_eq, true_implies, forall_const, not_true_eq_false, not_false_eq_true, false_implies, and_true, true_and, implies_true, and_self, eq_self]
                  have H1 := pl_comm H (c := c) (by omega) m1 p3 f2 hA.1 hA.2
                  have H2 := pl_stg H1 (c := c) (x := 3) (by omega) m1 (by rw [pl_us]; decide) (by rw [pl_us]; decide) hr g0 (by decide)
                  have HI1 := lw_i_fate (t := t) (y := 3) HI (Or.inl f2) (Or.inr (Or.inl rfl)) (fun y => absurd y (by decide)) (by rw [f2]; decide)
                  have HI2 := lw_i_stg H1 (x := 3) hc m1 hr g0 (fun y => by rw [pl_us] at y; exact absurd y (by decide)) (Or.inr ⟨rfl, pl_us⟩) HI1
                  refine lw_cend H2 HI2 hJ hc m1 pl_us (fun q lq => ?_) hF (fun z => z) (fun z => z)
                  by_cases e : q = t
                  · subst e
                    refine Or.inr (Or.inr (Or.inr ⟨pl_us, lw_b2 (kp q lt) f2, rfl, rfl, eC.symm, eq1.symm.trans hpr.symm, hpa.trans p3, fun i li g => ?_⟩))
                    refine (HI.2.2.2.2.2.2.2.2.1 i li).2 q lt f2 oP (fun y => g ?_)
                    by_cases ei : i = r
                    · rw [ei] at y; exact absurd y g0
                    · rw [pl_c3 ei]; exact y
                  · refine Or.inl ?_
                    unfold lw_kp
                    rw [pl_un e]
                    exact kp q lq
              · have ne1 : ¬ nI r = xq c := fun y => eq1 y.symm
                simp (disch := omega) only [wpX_commit, wpX_isClient, wpX_isRow, wpX_clientCell, wpX_commitWhenStamped, wX_commit_97, hc, hc', hr, hr', p3, e0, g0, ne1, pl_nq, pl_cc, pl_vc, pl_le8, pl_le32, pl_lt64, pl_lt1, pl_lt8, pl_lt32, nI_pos, nI_pos', vp_in_nI, nI_clamp, nI_1, nI_leI, nI_ltI, nI_eq, forall_eq, true_implies, forall_const, not_true_eq_false, not_false_eq_true, false_implies, and_true, true_and, implies_true, and_self, eq_self]
                exact sm _ (by decide) (by decide)
            · have p4 : ph c = 4 := by
                unfold pl_ok at ok
                rcases ok with z | z | z | z
                · exact absurd z.1 p1
                · exact absurd z.1 p2
                · exact absurd z.1 p3
                · exact z.1
              have f3 := pl_ok4 ok p4
              by_cases g3 : yg (t * 8 + r) = 3
              · simp (disch := omega) only [wpX_commit, wpX_isClient, wpX_isRow, wpX_clientCell, wpX_commitWhenCommitted, wX_commit_97, hc, hc', hr, hr', p0, p1, p2, p3, e0, g3, pl_nq, pl_cc, pl_vc, pl_le8, pl_le32, pl_lt64, pl_lt1, pl_lt8, pl_lt32, nI_pos, nI_pos', vp_in_nI, nI_clamp, nI_1, nI_leI, nI_ltI, nI_eq, forall_eq, true_implies, forall_const, not_true_eq_false, not_false_eq_true, false_implies, and_true, true_and, implies_true, and_self, eq_self]
                exact sm _ (by decide) (by decide)
              · simp (disch := omega) only [wpX_commit, wpX_isClient, wpX_isRow, wpX_clientCell, wpX_commitWhenCommitted, hc, hc', hr, hr', p0, p1, p2, p3, e0, g0, g3, pl_nq, pl_cc, pl_vc, pl_le8, pl_le32, pl_lt64, pl_lt1, pl_lt8, pl_lt32, nI_pos, nI_pos', vp_in_nI, nI_clamp, nI_1, nI_leI, nI_ltI, nI_eq, forall_eq, true_implies, forall_const, not_true_eq_false, not_false_eq_true, false_implies, and_true, true_and, implies_true, and_self, eq_self]
                have H2 := pl_stg H (c := c) (x := 3) (by omega) m1 p1 (by rw [f3]; decide) hr g0 (by decide)
                have HI2 := lw_i_stg H (x := 3) hc m1 hr g0 (fun y => by rw [f3] at y; exact absurd y (by decide)) (Or.inr ⟨rfl, f3⟩) HI
                exact lw_cend H2 HI2 hJ hc m1 f3 (fun q lq => Or.inl (kp q lq)) hF (fun z => z) (fun z => z)
/-! prewrite -/
theorem lw_lk {t r : Nat} {yf' : Nat → Int32} (kp : ∀ t, t < bg → lw_kp S yf bo de dn t) (hTI : pl_TI bg S) (lt : t < bg) (lk : pl_lk bg r S xh yf yl yg yf') (hk : kd = 2 ∨ kd = 5) (es : S t = s)
    (ho : ∀ t1, t1 < bg → yf t1 = 2 → yg (t1 * 8 + r) = 2 → t1 ≠ t) (HI : lw_I nc nr nt ck bg S P M yf yg yv w0 w1 w2 w3 o0 o1 o2 o3 cu rm be st) :
    lw_I nc nr nt ck bg S P M yf' yg yv w0 w1 w2 w3 o0 o1 o2 o3 cu rm be st ∧ yf' t = yf t ∧ ∀ q, q < bg → lw_kp S yf' bo de dn q ∨ (q ≠ t ∧ yf' q = 4 ∧ lw_bt bo de dn (S q) true false false ∧ ((kd = 9 ∧ S q = s) ∨ ((kd = 2 ∨ kd = 5) ∧ S q ≠ s))) := by
  rcases lk with ⟨e, _⟩ | ⟨t1, lt1, f2, g2, _, _, _, e⟩
  · subst e
    exact ⟨HI, rfl, fun q lq => Or.inl (kp q lq)⟩
  · subst e
    have ne := ho t1 lt1 f2 g2
    refine ⟨lw_i_fate HI (Or.inl f2) (Or.inr (Or.inr rfl)) (fun y => absurd y (by decide)) (by rw [f2]; decide), pl_un (fun y => ne y.symm), fun q lq => ?_⟩
    by_cases e : q = t1
    · subst e
      exact Or.inr ⟨ne, pl_us, lw_b2 (kp q lq) f2, Or.inr ⟨hk, by rw [← es]; exact pl_Sj hTI lq lt ne⟩⟩
    · refine Or.inl ?_
      unfold lw_kp
      rw [pl_un e]
      exact kp q lq
theorem lw_k2 (H : pl_R nc nr nl nt ck bg S P M ph xs xp xq xg xv xf xl xc xh xw xz ym yf ys yp yq yl yg yv) (HI : lw_I nc nr nt ck bg S P M yf yg yv w0 w1 w2 w3 o0 o1 o2 o3 cu rm be st) (kp : ∀ t, t < bg → lw_kp S yf bo de dn t) (hF : lw_F ck bo de dn) (hJ : lw_HJ nc nr jj J197) {c r : Nat} (hc : c < nc) (hr : r < nr) : wL_law_465 post L xs0 J98 J197 (nI nc) (nI nr) w0 w1 w2 w3 o0 o1 o2 o3 cu rm be bo de dn st (nI ck) kk aa bb op (nI c) dd r0 re jj (nI r) pa pr 2 kc ks (nI nc) (nI nr) (nI nl) (nI nt) (nI ck) (nI bg) ph xs xp xq xg xv xf xl xc xh xw xz := by
  have hb := pl_b H
  have hc' : ¬ nc ≤ c := by omega
  have hr' : ¬ nr ≤ r := by omega
  have sm : ∀ a : Int32, ¬ a = -11 → ∃ n, wL_law_1027 post L xs0 J98 J197 (nI nc) (nI nr) w0 w1 w2 w3 o0 o1 o2 o3 cu rm be st (nI ck) kk aa bb op (nI c) dd r0 re a jj (nI r) pa pr 2 (nI (pb_f cu (8 * c) 8)) kc ks (nI nc) (nI nr) (nI nl) (nI nt) (nI ck) (nI bg) ph xs xp xq xg xv xf xl xc xh xw xz n bo de dn 1 := fun a h11 => lw_same H HI hJ (lw_sb _ _) kp hF (fun y => absurd y (by decide)) h11
  unfold wL_law_465
  refine lw_at (by omega) (br_f (by decide) (br_f (by decide) (br_t rfl ?_)))
  rcases pl_cl H (c := c) (by omega) with ⟨m0, p0, _⟩ | ⟨t, m1, lt, p0, em, es, et, l1, l2, ef, ok, eq, eq', eg, _⟩
  · simp (disch := omega) only [wpX_prewrite, wpX_isClient, wpX_isRow, hc, hc', hr, hr', p0, pl_nq, pl_cc, pl_vc, pl_le8, pl_le32, pl_lt64, pl_lt1, pl_lt8, pl_lt32, nI_pos, nI_pos', vp_in_nI, nI_clamp, nI_1, nI_leI, nI_ltI, nI_eq, forall_eq, true_implies, forall_const, not_true_eq_false, not_false_eq_true, false_implies, and_true, true_and, implies_true, and_self, eq_self]
    exact sm _ (by decide)
  · have eC := HI.2.2.2.2.2.1 c t hc m1
    by_cases p3 : ph c = 3
    · simp (disch := omega) only [wpX_prewrite, wpX_isClient, wpX_isRow, hc, hc', hr, hr', p3, pl_nq, pl_cc, pl_vc, pl_le8, pl_le32, pl_lt64, pl_lt1, pl_lt8, pl_lt32, nI_pos, nI_pos', vp_in_nI, nI_clamp, nI_1, nI_leI, nI_ltI, nI_eq, forall_eq, true_implies, forall_const, not_true_eq_false, not_false_eq_true, false_implies, and_true, true_and, implies_true, and_self, eq_self]
      exact sm _ (by decide)
    · by_cases p4 : ph c = 4
      · simp (disch := omega) only [wpX_prewrite, wpX_isClient, wpX_isRow, hc, hc', hr, hr', p4, pl_nq, pl_cc, pl_vc, pl_le8, pl_le32, pl_lt64, pl_lt1, pl_lt8, pl_lt32, nI_pos, nI_pos', vp_in_nI, nI_clamp, nI_1, nI_leI, nI_ltI, nI_eq, forall_eq, true_implies, forall_const, not_true_eq_false, not_false_eq_true, false_implies, and_true, true_and, implies_true, and_self, eq_self]
        exact sm _ (by decide)
      · have e0 := (eg r (by omega)).1
        by_cases g0 : yg (t * 8 + r) = 0
        · simp (disch := omega) only [wpX_prewrite, wpX_isClient, wpX_isRow, wpX_clientCell, hc, hc', hr, hr', p0, p3, p4, e0, g0, pl_nq, pl_cc, pl_vc, pl_le8, pl_le32, pl_lt64, pl_lt1, pl_lt8, pl_lt32, nI_pos, nI_pos', vp_in_nI, nI_clamp, nI_1, nI_leI, nI_ltI, nI_eq, forall_eq, true_implies, forall_const, not_true_eq_false, not_false_eq_true, false_implies, and_true, true_and, implies_true, and_self, eq_self]
          exact sm _ (by decide)
        · by_cases g2 : yg (t * 8 + r) = 2
          · simp (disch := omega) only [wpX_prewrite, wpX_isClient, wpX_isRow, wpX_clientCell, hc, hc', hr, hr', p0, p3, p4, e0, g2, pl_nq, pl_cc, pl_vc, pl_le8, pl_le32, pl_lt64, pl_lt1, pl_lt8, pl_lt32, nI_pos, nI_pos', vp_in_nI, nI_clamp, nI_1, nI_leI, nI_ltI, nI_eq, forall_eq, true_implies, forall_const, not_true_eq_false, not_false_eq_true, false_implies, and_true, true_and, implies_true, and_self, eq_self]
            exact sm _ (by decide)
          · simp (disch := omega) only [wpX_prewrite, wpX_isClient, wpX_isRow, wpX_clientCell, hc, hc', hr, hr', p0, p3, p4, e0, g0, g2, pl_nq, pl_cc, pl_vc, pl_le8, pl_le32, pl_lt64, pl_lt1, pl_lt8, pl_lt32, nI_pos, nI_pos', vp_in_nI, nI_clamp, nI_1, nI_leI, nI_ltI, nI_eq, forall_eq, true_implies, forall_const, not_true_eq_false, not_false_eq_true, false_implies, and_true, true_and, implies_true, and_self, eq_self]
            refine px_clear H hr (fun t1 lt1 f1 h1 m e1 z => ?_) ?_
            · simp (disch := omega) only [pl_cc, pl_vc, pl_le8, pl_le32, pl_lt64, pl_lt1, pl_lt8, pl_lt32, nI_pos, nI_pos', vp_in_nI, nI_clamp, nI_1, nI_leI, nI_ltI, nI_eq, forall_eq, true_implies, forall_const, not_true_eq_false, not_false_eq_true, false_implies, and_true, true_and, implies_true, and_self, eq_self]
              exact sm _ (by decide)
            · intro xf' xh' yf' H' hh lk
              obtain ⟨HI', ey, hq⟩ := lw_lk (kd := 2) (s := pb_f cu (8 * c) 8) kp H.2.2.1 lt lk (Or.inl rfl) eC.symm (fun t1 _ _ g e => g2 (by rw [← e]; exact g)) HI
              have hst : ∀ (an : Int32) (g : Nat → Int32) (q : Nat), q < bg → lw_sta nr S P yf' g bo de dn rm 2 an (pb_f cu (8 * c) 8) (nI r) pr pa q := fun an g q lq => (hq q lq).elim Or.inl (fun y => Or.inr (Or.inr (Or.inl y.2)))
              simp (disch := omega) only [es, pl_nq, pl_cc, pl_vc, pl_le8, pl_le32, pl_lt64, pl_lt1, pl_lt8, pl_lt32, nI_pos, nI_pos', vp_in_nI, nI_clamp, nI_1, nI_leI, nI_ltI, nI_eq, forall_eq, true_implies, forall_const, not_true_eq_false, not_false_eq_true, false_implies, and_true, true_and, implies_true, and_self, eq_self]
              have ef' : xf' (S t) = yf' t := H'.2.2.2.2.2.2.2.2.2.2.2.2.2.1 t lt
              have fin : ∀ Z : Int32 → St2 → Prop, ((∃ n, wL_law_1027 post L xs0 J98 J197 (nI nc) (nI nr) w0 w1 w2 w3 o0 o1 o2 o3 cu rm be st (nI ck) kk aa bb op (nI c) dd r0 re 0 jj (nI r) pa pr 2 (nI (pb_f cu (8 * c) 8)) kc ks (nI nc) (nI nr) (nI nl) (nI nt) (nI ck) (nI bg) (upd ph c 2) xs xp (upd xq c (nI r)) (upd xg (c * 8 + r) 2) xv (upd xf' (S t) 2) (upd xl (S t) (nI nl)) xc (upd xh' r (nI (S t))) xw xz n bo de dn 1) → Z 0 (nI nc, nI nr, nI nl, nI nt, nI ck, nI bg, upd ph c 2, xs, xp, upd xq c (nI r), upd xg (c * 8 + r) 2, xv, upd xf' (S t) 2, upd xl (S t) (nI nl), xc, upd xh' r (nI (S t)), xw, xz)) → ((∃ n, wL_law_1027 post L xs0 J98 J197 (nI nc) (nI nr) w0 w1 w2 w3 o0 o1 o2 o3 cu rm be st (nI ck) kk aa bb op (nI c) dd r0 re 0 jj (nI r) pa pr 2 (nI (pb_f cu (8 * c) 8)) kc ks (nI nc) (nI nr) (nI nl) (nI nt) (nI ck) (nI bg) ph xs xp xq (upd xg (c * 8 + r) 2) xv xf' xl xc (upd xh' r (nI (S t))) xw xz n bo de dn 1) → Z 0 (nI nc, nI nr, nI nl, nI nt, nI ck, nI bg, ph, xs, xp, xq, upd xg (c * 8 + r) 2, xv, xf', xl, xc, upd xh' r (nI (S t)), xw, xz)) → ((∃ n, wL_law_1027 post L xs0 J98 J197 (nI nc) (nI nr) w0 w1 w2 w3 o0 o1 o2 o3 cu rm be st (nI ck) kk aa bb op (nI c) dd r0 re 0 jj (nI r) pa pr 2 (nI (pb_f cu (8 * c) 8)) kc ks (nI nc) (nI nr) (nI nl) (nI nt) (nI ck) (nI bg) ph xs xp xq (upd xg (c * 8 + r) 2) xv xf' xl xc xh' xw xz n bo de dn 1) → Z 0 (nI nc, nI nr, nI nl, nI nt, nI ck, nI bg, ph, xs, xp, xq, upd xg (c * 8 + r) 2, xv, xf', xl, xc, xh', xw, xz)) →
                  (ph c = 1 → wX_prewrite_138 Z (nI c) (nI r) (nI nc) (nI nr) (nI nl) (nI nt) (nI ck) (nI bg) (upd ph c 2) xs xp (upd xq c (nI r)) (upd xg (c * 8 + r) 2) xv (upd xf' (S t) 2) (upd xl (S t) (nI nl)) xc xh' xw xz) ∧ (¬ ph c = 1 → wX_prewrite_138 Z (nI c) (nI r) (nI nc) (nI nr) (nI nl) (nI nt) (nI ck) (nI bg) ph xs xp xq (upd xg (c * 8 + r) 2) xv xf' xl xc xh' xw xz) := by
                intro Z z1 z2 z3
                refine br_c (fun p1 => ?_) (fun p1 => ?_)
                · obtain ⟨f1, hP, _⟩ := pl_ok1 ok p1
                  have f1' : yf' t = 1 := ey.trans f1
                  simp (disch := omega) only [wX_prewrite_138, es, pl_us, pl_cc, pl_vc, pl_le8, pl_le32, pl_lt64, pl_lt1, pl_lt8, pl_lt32, nI_pos, nI_pos', vp_in_nI, nI_clamp, nI_1, nI_leI, nI_ltI, nI_eq, forall_eq, true_implies, forall_const, not_true_eq_false, not_false_eq_true, false_implies, and_true, true_and, implies_true, and_self, eq_self]
                  have H1 := pl_pend H' (by omega) m1 p1 hr
                  have H2 := pl_hold H1 (by omega) m1 pl_us pl_us hr hh g0
                  have HI1 := lw_i_fate (t := t) (y := 2) HI' (Or.inr hP) (Or.inl rfl) (fun _ => hP) (by rw [f1']; decide)
                  have HI2 := lw_i_stg H1 (x := 2) hc m1 hr g0 (fun _ => hP) (Or.inl rfl) HI1
                  refine z1 (lw_go H2 HI2 hJ (lw_sb _ _) (fun q lq => ?_) hF (fun a => absurd a (by decide)) (fun a => absurd a (by decide)))
                  by_cases e : q = t
                  · subst e
                    have b : lw_bt bo de dn (S q) false false false := by
                      rcases kp q lt with ⟨_, y⟩ | ⟨y, _⟩ | ⟨y, _⟩ | ⟨y, _⟩
                      · exact y
                      · rw [y] at f1; exact absurd f1 (by decide)
                      · rw [y] at f1; exact absurd f1 (by decide)
                      · rw [y] at f1; exact absurd f1 (by decide)
                    exact Or.inr (Or.inl ⟨pl_us, b, rfl, rfl, eC.symm⟩)
                  · rcases hq q lq with y | ⟨_, y1, y2⟩
                    · refine Or.inl ?_
                      unfold lw_kp at y ⊢
                      rw [pl_un e]
                      exact y
                    · exact Or.inr (Or.inr (Or.inl ⟨by rw [pl_un e]; exact y1, y2⟩))
                · have p2 : ph c = 2 := by
                    unfold pl_ok at ok
                    rcases ok with z | z | z | z
                    · exact absurd z.1 p1
                    · exact z.1
                    · exact absurd z.1 p3
                    · exact absurd z.1 p4
                  have hP := (pl_ok2 ok p2).2
                  have HI2 := lw_i_stg H' (x := 2) hc m1 hr g0 (fun _ => hP) (Or.inl rfl) HI'
                  by_cases f2 : yf' t = 2
                  · simp (disch := omega) only [wX_prewrite_138, es, ef', f2, pl_cc, pl_vc, pl_le8, pl_le32, pl_lt64, pl_lt1, pl_lt8, pl_lt32, nI_pos, nI_pos', vp_in_nI, nI_clamp, nI_1, nI_leI, nI_ltI, nI_eq, forall_eq, true_implies, forall_const, not_true_eq_false, not_false_eq_true, false_implies, and_true, true_and, implies_true, and_self, eq_self]
                    exact z2 (lw_go (pl_hold H' (by omega) m1 p2 f2 hr hh g0) HI2 hJ (lw_sb _ _) (hst 0 _) hF (fun a => absurd a (by decide)) (fun a => absurd a (by decide)))
                  · simp (disch := omega) only [wX_prewrite_138, es, ef', f2, pl_cc, pl_vc, pl_le8, pl_le32, pl_lt64, pl_lt1, pl_lt8, pl_lt32, nI_pos, nI_pos', vp_in_nI, nI_clamp, nI_1, nI_leI, nI_ltI, nI_eq, forall_eq, true_implies, forall_const, not_true_eq_false, not_false_eq_true, false_implies, and_true, true_and, implies_true, and_self, eq_self]
                    exact z3 (lw_go (pl_stg H' (by omega) m1 p1 f2 hr g0 (by decide)) HI2 hJ (lw_sb _ _) (hst 0 _) hF (fun a => absurd a (by decide)) (fun a => absurd a (by decide)))
              rcases pl_new H' (r := r) (by omega) (fun _ => True) with ⟨t2, lt2, f3, g3, _, k1, k2, ep, hw, ez, hz, _⟩ | ⟨hz, _⟩
              · refine px_new_s (by omega) k1 k2 hw (nI_le (b := 64) k2 (by decide)) (fun q a b _ => hz q a b trivial) ?_
                by_cases le : P t2 ≤ S t
                · simp (disch := omega) only [wpX_makePending, es, le, pl_cc, pl_vc, pl_le8, pl_le32, pl_lt64, pl_lt1, pl_lt8, pl_lt32, nI_pos, nI_pos', vp_in_nI, nI_clamp, nI_1, nI_leI, nI_ltI, nI_eq, forall_eq, true_implies, forall_const, not_true_eq_false, not_false_eq_true, false_implies, and_true, true_and, implies_true, and_self, eq_self]
                  exact fin _ (fun z => z) (fun z => z) (fun z => z)
                · simp (disch := omega) only [le, pl_cc, pl_vc, pl_le8, pl_le32, pl_lt64, pl_lt1, pl_lt8, pl_lt32, nI_pos, nI_pos', vp_in_nI, nI_clamp, nI_1, nI_leI, nI_ltI, nI_eq, forall_eq, true_implies, forall_const, not_true_eq_false, not_false_eq_true, false_implies, and_true, true_and, implies_true, and_self, eq_self]
                  exact lw_go H' HI' hJ (lw_sb _ _) (hst (-10) _) hF (fun a => absurd a (by decide)) (fun a => absurd a (by decide))
              · refine px_new_n (by omega) (fun q a b _ => hz q a b trivial) ?_
                have le : (-1 : Int32) ≤ nI (S t) := Int32.le_trans (by decide : (-1 : Int32) ≤ 0) (nI_pos' (by omega))
                simp (disch := omega) only [wpX_makePending, es, le, pl_cc, pl_vc, pl_le8, pl_le32, pl_lt64, pl_lt1, pl_lt8, pl_lt32, nI_pos, nI_pos', vp_in_nI, nI_clamp, nI_1, nI_leI, nI_ltI, nI_eq, forall_eq, true_implies, forall_const, not_true_eq_false, not_false_eq_true, false_implies, and_true, true_and, implies_true, and_self, eq_self]
                exact fin _ (fun z => z) (fun z => z) (fun z => z)
end LWG
