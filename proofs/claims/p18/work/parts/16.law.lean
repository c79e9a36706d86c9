section LWI
variable {nc nr nl nt ck bg : Nat} {S P M : Nat → Nat} {ph xs xp xq xg xv xf xl xc xh xw xz ym yf ys yp yq yl yg yv : Nat → Int32}
variable {w0 w1 w2 w3 o0 o1 o2 o3 cu rm be bo de dn st : Int64} {kk aa bb op cc dd r0 re an jj rr pa pr kd : Int32} {kc ks L s : Nat} {xs0 : Nat → Int32} {post : Int32 → Prop} {J98 : lw_T98} {J197 : lw_T197}
theorem pl_lk5 : (¬ (0 : Int32) < 0) ∧ ((0 : Int32) ≤ 5) ∧ (¬ (1 : Int32) < 0) ∧ ((1 : Int32) ≤ 5) ∧ (¬ (2 : Int32) < 0) ∧ ((2 : Int32) ≤ 5) ∧ (¬ (3 : Int32) < 0) ∧ ((3 : Int32) ≤ 5) ∧ (¬ (4 : Int32) < 0) ∧ ((4 : Int32) ≤ 5) ∧ (¬ (5 : Int32) < 0) ∧ ((5 : Int32) ≤ 5) ∧ (¬ (5 : Int32) = 0) ∧ (¬ (0 : Int32) = 5) ∧ (¬ (5 : Int32) = 1) ∧ (¬ (1 : Int32) = 5) ∧ (¬ (5 : Int32) = 2) ∧ (¬ (2 : Int32) = 5) ∧ (¬ (5 : Int32) = 3) ∧ (¬ (3 : Int32) = 5) ∧ (¬ (5 : Int32) = 4) ∧ (¬ (4 : Int32) = 5) := by decide
theorem px_look0 (H : pl_R nc nr nl nt ck bg S P M ph xs xp xq xg xv xf xl xc xh xw xz ym yf ys yp yq yl yg yv) {c : Nat} (hc : c < nc) {p : Int32 → Prop} {z : Int32} (h : p (ph c)) : wpX_look p (nI nc, nI nr, nI nl, nI nt, nI ck, nI bg, ph, xs, xp, xq, xg, xv, xf, xl, xc, xh, xw, xz) (nI c) 0 z := by
  have hb := pl_b H
  have hc' : ¬ nc ≤ c := by omega
  simp (disch := omega) only [wpX_look, wpX_isClient, hc, hc', pl_lk5, pl_nq, pl_cc, pl_vc, pl_le8, pl_le32, pl_lt64, pl_lt1, pl_lt8, pl_lt32, nI_pos, nI_pos', vp_in_nI, nI_clamp, nI_1, nI_leI, nI_ltI, nI_eq, forall_eq, true_implies, forall_const, not_true_eq_false, not_false_eq_true, false_implies, and_true, true_and, implies_true, and_self, eq_self]
  exact h
theorem px_look3 (H : pl_R nc nr nl nt ck bg S P M ph xs xp xq xg xv xf xl xc xh xw xz ym yf ys yp yq yl yg yv) {c : Nat} (hc : c < nc) {p : Int32 → Prop} {z : Int32} (h : p (xq c)) : wpX_look p (nI nc, nI nr, nI nl, nI nt, nI ck, nI bg, ph, xs, xp, xq, xg, xv, xf, xl, xc, xh, xw, xz) (nI c) 3 z := by
  have hb := pl_b H
  have hc' : ¬ nc ≤ c := by omega
  simp (disch := omega) only [wpX_look, wpX_isClient, hc, hc', pl_lk5, pl_nq, pl_cc, pl_vc, pl_le8, pl_le32, pl_lt64, pl_lt1, pl_lt8, pl_lt32, nI_pos, nI_pos', vp_in_nI, nI_clamp, nI_1, nI_leI, nI_ltI, nI_eq, forall_eq, true_implies, forall_const, not_true_eq_false, not_false_eq_true, false_implies, and_true, true_and, implies_true, and_self, eq_self]
  exact h
theorem px_look4 (H : pl_R nc nr nl nt ck bg S P M ph xs xp xq xg xv xf xl xc xh xw xz ym yf ys yp yq yl yg yv) {c r : Nat} (hc : c < nc) (hr : r < nr) {p : Int32 → Prop} (h : p (xg (c * 8 + r))) : wpX_look p (nI nc, nI nr, nI nl, nI nt, nI ck, nI bg, ph, xs, xp, xq, xg, xv, xf, xl, xc, xh, xw, xz) (nI c) 4 (nI r) := by
  have hb := pl_b H
  have hc' : ¬ nc ≤ c := by omega
  have hr' : ¬ nr ≤ r := by omega
  simp (disch := omega) only [wpX_look, wpX_isClient, wX_look_30, wpX_isRow, wpX_lookAtRow, wpX_clientCell, hc, hc', hr, hr', pl_lk5, pl_nq, pl_cc, pl_vc, pl_le8, pl_le32, pl_lt64, pl_lt1, pl_lt8, pl_lt32, nI_pos, nI_pos', vp_in_nI, nI_clamp, nI_1, nI_leI, nI_ltI, nI_eq, forall_eq, true_implies, forall_const, not_true_eq_false, not_false_eq_true, false_implies, and_true, true_and, implies_true, and_self, eq_self]
  exact h
/-! the search for a row of the wanted stage -/
theorem lw_wl (H : pl_R nc nr nl nt ck bg S P M ph xs xp xq xg xv xf xl xc xh xw xz ym yf ys yp yq yl yg yv) {c : Nat} {f w : Int32} (hc : c < nc) (call : ∀ kd rr, (∃ n, n ≤ 9 ∧ kd = nI n) → (∃ r, r < nr ∧ rr = nI r) → wL_law_465 post L xs0 J98 J197 (nI nc) (nI nr) w0 w1 w2 w3 o0 o1 o2 o3 cu rm be bo de dn st (nI ck) kk aa bb op (nI c) dd r0 re jj rr pa pr kd kc ks (nI nc) (nI nr) (nI nl) (nI nt) (nI ck) (nI bg) ph xs xp xq xg xv xf xl xc xh xw xz) : ∀ d n r, n + d = nr → r < nr → wL_law_408 post L xs0 J98 J197 (nI nc) (nI nr) w0 w1 w2 w3 o0 o1 o2 o3 cu rm be bo de dn st (nI ck) kk aa bb op (nI c) dd r0 re jj pa pr f w kc ks (nI nc) (nI nr) (nI nl) (nI nt) (nI ck) (nI bg) ph xs xp xq xg xv xf xl xc xh xw xz (d + 1) (nI r) (nI n) := by
  have hb := pl_b H
  have fin : ∀ n r, r < nr → wL_law_443 post L xs0 J98 J197 (nI nc) (nI nr) w0 w1 w2 w3 o0 o1 o2 o3 cu rm be bo de dn st (nI ck) kk aa bb op (nI c) dd r0 re jj (nI r) pa pr f (nI n) kc ks (nI nc) (nI nr) (nI nl) (nI nt) (nI ck) (nI bg) ph xs xp xq xg xv xf xl xc xh xw xz := by
    intro n r lr
    unfold wL_law_443
    exact br_c (fun _ => call _ _ ⟨3, by decide, rfl⟩ ⟨r, lr, rfl⟩) (fun _ => br_c (fun _ => call _ _ ⟨4, by decide, rfl⟩ ⟨r, lr, rfl⟩) (fun _ => call _ _ ⟨2, by decide, rfl⟩ ⟨r, lr, rfl⟩))
  intro d
  induction d with
  | zero =>
    intro n r hn lr
    exact br_t (nI_le (by omega) (by omega)) (fin n r lr)
  | succ d ih =>
    intro n r hn lr
    rw [wL_law_408]
    refine br_f (nI_ge (by omega) (by omega)) (px_look4 H hc lr (br_c (fun _ => fin n r lr) (fun _ => ⟨nI_ne0 (by omega) (by omega), ?_⟩)))
    rw [nI_1, pk_rem (by omega) (by omega) (by omega)]
    exact nm_e (nm_r (nI_1 n) (ih (n + 1) ((r + 1) % nr) (by omega) (Nat.mod_lt _ (by omega))))
/-! the inner loop -/
theorem lw_jl {c d0 r00 rn a b k o : Nat} (hc : c < nc) (hnc : nc ≤ 8) (hn1 : 2 ≤ nr) (hn : nr ≤ 4) (ha : a < 2 ^ 31) (hbb : b < 2 ^ 31) (hk : k ≤ 1000) (hd : d0 ≤ 1) (hr0 : r00 < nr) (hrn : rn ≤ 7) (ho : o ≤ 15)
    (hJ98 : ∀ (w0 w1 w2 w3 o0 o1 o2 o3 cu rm be bo de dn st : Int64) (la f0 f1 f2 f3 f4 f5 : Int32) (ph xs xp xq xg xv xf xl xc xh xw xz : Nat → Int32), lw_Jv nc nr w0 w1 w2 w3 o0 o1 o2 o3 cu rm be bo de dn st la f0 f1 f2 f3 f4 f5 ph xs xp xq xg xv xf xl xc xh xw xz → J98 w0 w1 w2 w3 o0 o1 o2 o3 cu rm be bo de dn st la (nI k + 2) f0 f1 f2 f3 f4 f5 ph xs xp xq xg xv xf xl xc xh xw xz) :
    ∀ (d j : Nat) (w0 w1 w2 w3 o0 o1 o2 o3 cu rm be bo de dn st : Int64) (la an f0 f1 f2 f3 f4 f5 : Int32) (ph xs xp xq xg xv xf xl xc xh xw xz : Nat → Int32), j + d = rn → lw_Jv nc nr w0 w1 w2 w3 o0 o1 o2 o3 cu rm be bo de dn st la f0 f1 f2 f3 f4 f5 ph xs xp xq xg xv xf xl xc xh xw xz → wL_law_197 post L xs0 J98 (nI nc) (nI nr) (nI k) (nI a) (nI b) (nI o) (nI c) (nI d0) (nI r00) (nI rn) kc ks (d + 1) w0 w1 w2 w3 o0 o1 o2 o3 cu rm be bo de dn st la an (nI j) f0 f1 f2 f3 f4 f5 ph xs xp xq xg xv xf xl xc xh xw xz := by
  intro d
  induction d with
  | zero =>
    intro j w0 w1 w2 w3 o0 o1 o2 o3 cu rm be bo de dn st la an f0 f1 f2 f3 f4 f5 ph xs xp xq xg xv xf xl xc xh xw xz hj h
    refine br_t (nI_le (by omega) (by omega)) (nm_e ?_)
    exact hJ98 _ _ _ _ _ _ _ _ _ _ _ _ _ _ _ _ _ _ _ _ _ _ _ _ _ _ _ _ _ _ _ _ _ _ h
  | succ d ih =>
    intro j w0 w1 w2 w3 o0 o1 o2 o3 cu rm be bo de dn st la an f0 f1 f2 f3 f4 f5 ph xs xp xq xg xv xf xl xc xh xw xz hj h
    obtain ⟨nl, nt, ck, bg, S, P, M, ym, yf, ys, yp, yq, yl, yg, yv, rfl, rfl, rfl, rfl, rfl, rfl, rfl, H, HI, kp, hF⟩ := h
    have hb := pl_b H
    rw [wL_law_197]
    refine br_f (nI_ge (by omega) (by omega)) ⟨nI_ne0 (by omega) (by omega), ?_⟩
    have e1 : nI r00 + nI j * nI d0 = nI (r00 + j * d0) := by rw [pl_mul, nI_add]
    have lj : j * d0 ≤ 7 * 1 := Nat.mul_le_mul (by omega) hd
    rw [e1, pk_rem (by omega) (by omega) (by omega)]
    have lr : (r00 + j * d0) % nr < nr := Nat.mod_lt _ (by omega)
    refine nm_e (px_look0 H hc (px_look3 H hc ?_))
    have hJ : lw_HJ nc nr (nI j) (wL_law_197 post L xs0 J98 (nI nc) (nI nr) (nI k) (nI a) (nI b) (nI o) (nI c) (nI d0) (nI r00) (nI rn) kc ks (d + 1)) := by
      intro w0 w1 w2 w3 o0 o1 o2 o3 cu rm be bo de dn st la an f0 f1 f2 f3 f4 f5 ph xs xp xq xg xv xf xl xc xh xw xz h
      rw [nI_1]
      exact ih (j + 1) _ _ _ _ _ _ _ _ _ _ _ _ _ _ _ _ _ _ _ _ _ _ _ _ _ _ _ _ _ _ _ _ _ _ _ (by omega) h
    have hq : ∃ q, 1 ≤ q ∧ q ≤ 3 ∧ 1 + (((((nI b >>> ((3 : Int32) &&& 31)) + (nI a >>> ((5 : Int32) &&& 31))) + nI k) + nI j) - ((((nI b >>> ((3 : Int32) &&& 31)) + (nI a >>> ((5 : Int32) &&& 31))) + nI k) + nI j) / 3 * 3) = nI q := by
      have s3 : nI b >>> ((3 : Int32) &&& 31) = nI (b / 2 ^ 3) := pk_shrN hbb _ 3 (by decide)
      have s5 : nI a >>> ((5 : Int32) &&& 31) = nI (a / 2 ^ 5) := pk_shrN ha _ 5 (by decide)
      have r3 : nI (b / 2 ^ 3 + a / 2 ^ 5 + k + j) - nI (b / 2 ^ 3 + a / 2 ^ 5 + k + j) / 3 * 3 = nI ((b / 2 ^ 3 + a / 2 ^ 5 + k + j) % 3) := pk_rem (d := 3) (by omega) (by decide) (by decide)
      refine ⟨1 + (b / 2 ^ 3 + a / 2 ^ 5 + k + j) % 3, by omega, by omega, ?_⟩
      rw [s3, s5, nI_add, nI_add, nI_add, r3]
      exact nI_add 1 _
    have call : ∀ kd rr, (∃ n, n ≤ 9 ∧ kd = nI n) → (∃ r, r < nr ∧ rr = nI r) → wL_law_465 post L xs0 J98 (wL_law_197 post L xs0 J98 (nI nc) (nI nr) (nI k) (nI a) (nI b) (nI o) (nI c) (nI d0) (nI r00) (nI rn) kc ks (d + 1)) (nI nc) (nI nr) w0 w1 w2 w3 o0 o1 o2 o3 cu rm be bo de dn st (nI ck) (nI k) (nI a) (nI b) (nI o) (nI c) (nI d0) (nI r00) (nI rn) (nI j) rr (ph c) (xq c) kd kc ks (nI nc) (nI nr) (nI nl) (nI nt) (nI ck) (nI bg) ph xs xp xq xg xv xf xl xc xh xw xz :=
      fun kd rr h1 h2 => lw_call H HI kp hF hJ hc h1 (Or.inl h2) rfl rfl hq
    have rr0 : ∃ r, r < nr ∧ nI ((r00 + j * d0) % nr) = nI r := ⟨_, lr, rfl⟩
    have l391 : ∀ f : Int32, wL_law_391 post L xs0 J98 (wL_law_197 post L xs0 J98 (nI nc) (nI nr) (nI k) (nI a) (nI b) (nI o) (nI c) (nI d0) (nI r00) (nI rn) kc ks (d + 1)) (nI nc) (nI nr) w0 w1 w2 w3 o0 o1 o2 o3 cu rm be bo de dn st (nI ck) (nI k) (nI a) (nI b) (nI o) (nI c) (nI d0) (nI r00) (nI rn) (nI j) (nI ((r00 + j * d0) % nr)) (ph c) (xq c) f kc ks (nI nc) (nI nr) (nI nl) (nI nt) (nI ck) (nI bg) ph xs xp xq xg xv xf xl xc xh xw xz := by
      intro f
      unfold wL_law_391
      exact br_c (fun _ => ⟨nr + 1, lw_wl H hc call nr 0 _ (by omega) lr⟩) (fun _ => ⟨nr + 1, lw_wl H hc call nr 0 _ (by omega) lr⟩)
    refine br_c (fun _ => br_c (fun _ => call _ _ ⟨0, by decide, rfl⟩ rr0) (fun _ => br_c (fun _ => br_c (fun _ => call _ _ ⟨9, by decide, rfl⟩ rr0) (fun _ => br_c (fun _ => call _ _ ⟨6, by decide, rfl⟩ rr0) (fun _ => br_c (fun _ => ?_) (fun _ => br_c (fun _ => ?_) (fun _ => br_c (fun _ => l391 1) (fun _ => l391 0)))))) (fun _ => call _ _ ⟨5, by decide, rfl⟩ rr0))) (fun ge => br_c (fun _ => br_c (fun _ => ?_) (fun _ => ⟨by decide, ?_⟩)) (fun lt => ?_))
    · exact px_look4 H hc lr (br_c (fun _ => call _ _ ⟨1, by decide, rfl⟩ rr0) (fun _ => call _ _ ⟨2, by decide, rfl⟩ rr0))
    · exact lw_call H HI kp hF hJ hc ⟨4, by decide, rfl⟩ (Or.inr rfl) rfl rfl hq
    · exact call _ _ ⟨1, by decide, rfl⟩ rr0
    · have s1 : nI b >>> ((1 : Int32) &&& 31) = nI (b / 2 ^ 1) := pk_shrN hbb _ 1 (by decide)
      have r3 : nI (b / 2 ^ 1) - nI (b / 2 ^ 1) / 3 * 3 = nI (b / 2 ^ 1 % 3) := pk_rem (d := 3) (by omega) (by decide) (by decide)
      rw [s1, r3]
      exact call _ _ ⟨2 + b / 2 ^ 1 % 3, by omega, nI_add 2 _⟩ rr0
    · have g1 : 10 ≤ o := by
        by_cases y : o < 10
        · exact absurd (nI_lt (b := 10) y (by decide)) ge
        · omega
      have g2 : o < 14 := by
        by_cases y : o < 14
        · exact y
        · exact absurd (nI_le (a := 14) (by omega) (by omega)) lt
      exact call _ _ ⟨o - 4, by omega, pk_sub (b := 4) (by omega)⟩ rr0
/-! the outer loop -/
theorem lw_cell {p : Int32 → Prop} {k : Nat} (hk : k < 2 ^ 31) (hL : L ≤ 260) (h : ∀ v, p v) : wpL_cell p L xs0 () (nI k) := by
  unfold wpL_cell
  refine br_c (fun _ => h _) (fun z => ⟨vp_in_nI ?_ (by omega), h _⟩)
  by_cases y : k < L
  · exact y
  · exact absurd (nI_le (by omega) hk) z
theorem lw_kl (hL : L ≤ 260) (hnc : 2 ≤ nc) (hnc3 : nc ≤ 3) (hn1 : 2 ≤ nr) (hn : nr ≤ 4) : ∀ (d k : Nat) (w0 w1 w2 w3 o0 o1 o2 o3 cu rm be bo de dn st : Int64) (la f0 f1 f2 f3 f4 f5 : Int32) (ph xs xp xq xg xv xf xl xc xh xw xz : Nat → Int32), L ≤ k + 2 * d → k ≤ 600 → lw_Jv nc nr w0 w1 w2 w3 o0 o1 o2 o3 cu rm be bo de dn st la f0 f1 f2 f3 f4 f5 ph xs xp xq xg xv xf xl xc xh xw xz → wL_law_98 (fun r => r = 1) L xs0 (nI nc) (nI nr) kc ks (d + 1) w0 w1 w2 w3 o0 o1 o2 o3 cu rm be bo de dn st la (nI k) f0 f1 f2 f3 f4 f5 ph xs xp xq xg xv xf xl xc xh xw xz := by
  intro d
  induction d with
  | zero =>
    intro k w0 w1 w2 w3 o0 o1 o2 o3 cu rm be bo de dn st la f0 f1 f2 f3 f4 f5 ph xs xp xq xg xv xf xl xc xh xw xz hk hk6 h
    exact br_t (nI_le (by omega) (by omega)) rfl
  | succ d ih =>
    intro k w0 w1 w2 w3 o0 o1 o2 o3 cu rm be bo de dn st la f0 f1 f2 f3 f4 f5 ph xs xp xq xg xv xf xl xc xh xw xz hk hk6 h
    by_cases l : L ≤ k
    · exact br_t (nI_le l (by omega)) rfl
    · have hJ98 : ∀ (w0 w1 w2 w3 o0 o1 o2 o3 cu rm be bo de dn st : Int64) (la f0 f1 f2 f3 f4 f5 : Int32) (ph xs xp xq xg xv xf xl xc xh xw xz : Nat → Int32), lw_Jv nc nr w0 w1 w2 w3 o0 o1 o2 o3 cu rm be bo de dn st la f0 f1 f2 f3 f4 f5 ph xs xp xq xg xv xf xl xc xh xw xz → wL_law_98 (fun r => r = 1) L xs0 (nI nc) (nI nr) kc ks (d + 1) w0 w1 w2 w3 o0 o1 o2 o3 cu rm be bo de dn st la (nI k + 2) f0 f1 f2 f3 f4 f5 ph xs xp xq xg xv xf xl xc xh xw xz := by
        intro w0 w1 w2 w3 o0 o1 o2 o3 cu rm be bo de dn st la f0 f1 f2 f3 f4 f5 ph xs xp xq xg xv xf xl xc xh xw xz h
        rw [lw_c2]
        exact ih (k + 2) _ _ _ _ _ _ _ _ _ _ _ _ _ _ _ _ _ _ _ _ _ _ _ _ _ _ _ _ _ _ _ _ _ _ (by omega) (by omega) h
      rw [wL_law_98]
      refine br_f (nI_ge (by omega) (by omega)) (lw_cell (by omega) hL (fun va => ?_))
      rw [pk_and va 31 (by decide)]
      have la' : va.toBitVec.toNat % 2 ^ 31 < 2 ^ 31 := Nat.mod_lt _ (by decide)
      generalize va.toBitVec.toNat % 2 ^ 31 = a at la' ⊢
      refine nm_e ?_
      rw [nI_1]
      refine lw_cell (by omega) hL (fun vb => ?_)
      rw [pk_and vb 31 (by decide)]
      have lb' : vb.toBitVec.toNat % 2 ^ 31 < 2 ^ 31 := Nat.mod_lt _ (by decide)
      generalize vb.toBitVec.toNat % 2 ^ 31 = b at lb' ⊢
      have e16 : nI a - nI a / 16 * 16 = nI (a % 16) := pk_rem (d := 16) la' (by decide) (by decide)
      have s1 : nI b >>> ((1 : Int32) &&& 31) = nI (b / 2 ^ 1) := pk_shrN lb' _ 1 (by decide)
      have s2 : nI b >>> ((2 : Int32) &&& 31) = nI (b / 2 ^ 2) := pk_shrN lb' _ 2 (by decide)
      have s4 : nI a >>> ((4 : Int32) &&& 31) = nI (a / 2 ^ 4) := pk_shrN la' _ 4 (by decide)
      have e2 : nI (b / 2 ^ 1) - nI (b / 2 ^ 1) / 2 * 2 = nI (b / 2 ^ 1 % 2) := pk_rem (d := 2) (by omega) (by decide) (by decide)
      refine nm_e ?_
      rw [e16, pk_rem lb' (by omega) (by omega), s1, e2, s2, s4, nI_add, pk_rem (by omega) (by omega) (by omega)]
      refine ⟨by decide, nm_e ⟨nI_ne0 (by omega) (by omega), nm_e ⟨by decide, nm_e ⟨nI_ne0 (by omega) (by omega), nm_e ?_⟩⟩⟩⟩
      have hc : b % nc < nc := Nat.mod_lt _ (by omega)
      have hr : (b / 2 ^ 2 + a / 2 ^ 4) % nr < nr := Nat.mod_lt _ (by omega)
      have ho : a % 16 ≤ 15 := by omega
      have go : ∀ rn, rn ≤ 7 → ∃ fu, wL_law_197 (fun r => r = 1) L xs0 (wL_law_98 (fun r => r = 1) L xs0 (nI nc) (nI nr) kc ks (d + 1)) (nI nc) (nI nr) (nI k) (nI a) (nI b) (nI (a % 16)) (nI (b % nc)) (nI (b / 2 ^ 1 % 2)) (nI ((b / 2 ^ 2 + a / 2 ^ 4) % nr)) (nI rn) kc ks fu w0 w1 w2 w3 o0 o1 o2 o3 cu rm be bo de dn st la 0 0 f0 f1 f2 f3 f4 f5 ph xs xp xq xg xv xf xl xc xh xw xz := by
        intro rn hrn
        have kk0 := lw_jl (post := fun r => r = 1) (L := L) (xs0 := xs0) (kc := kc) (ks := ks) hc (by omega) hn1 hn la' lb' (k := k) (by omega) (d0 := b / 2 ^ 1 % 2) (by omega) hr hrn ho hJ98 rn 0 w0 w1 w2 w3 o0 o1 o2 o3 cu rm be bo de dn st la 0 f0 f1 f2 f3 f4 f5 ph xs xp xq xg xv xf xl xc xh xw xz (by omega) h
        rw [nI_0] at kk0
        exact ⟨rn + 1, kk0⟩
      refine br_c (fun _ => br_c (fun _ => go 1 (by decide)) (fun _ => go 2 (by decide))) (fun z => ?_)
      have l7 : a % 16 < 7 := by
        by_cases y : a % 16 < 7
        · exact y
        · exact absurd (nI_le (a := 7) (by omega) (by omega)) z
      exact nm_r (nI_1 (a % 16)) (go (a % 16 + 1) (by omega))
/-! the start, and the whole -/
theorem lw_i_start (hnc3 : nc ≤ 3) (hn : nr ≤ 4) : lw_I nc nr 16 0 0 (fun _ => 0) (fun _ => 0) (fun _ => 0) (fun _ => 0) (fun _ => 0) (fun _ => 0) 0 0 0 0 0 0 0 0 0 0 0 0 := by
  have gz : ∀ i, i < 64 → pb_g 0 i = false := fun i hi => pb_zero.mp rfl i hi
  have wz : ∀ r, lw_W 0 0 0 0 r = 0 := by
    intro r
    unfold lw_W
    split
    · rfl
    · split
      · rfl
      · split <;> rfl
  refine ⟨hnc3, hn, rfl, ?_, ?_, ?_, ?_, ?_, ?_, ?_⟩
  · intro s hs
    rw [gz s hs]
    exact ⟨fun y => absurd y (by decide), fun ⟨t, lt, _⟩ => by omega⟩
  · exact ⟨fun t lt => by omega, fun s _ hs => gz s hs⟩
  · intro c t _ h
    have h' : 0 = t + 1 := h
    omega
  · exact ⟨fun r t _ lt => by omega, fun r s _ _ _ => by rw [wz]; exact pb_fz⟩
  · refine ⟨fun t lt => by omega, fun p _ _ h => ?_⟩
    unfold lw_O at h
    rw [wz] at h
    exact absurd pb_fz h
  · intro r _
    exact ⟨by rw [pb_fz]; exact Nat.le_refl 0, fun t lt => by omega⟩
  · intro t lt
    omega
theorem i_vc (xs : Nat → Int32) (L : Nat) (hL : L ≤ 260) : wpL_law (fun r => r = 1) L xs := by
  unfold wpL_law
  refine lw_cell (k := 0) (by decide) hL (fun va => ?_)
  rw [pk_and va 31 (by decide)]
  have la' : va.toBitVec.toNat % 2 ^ 31 < 2 ^ 31 := Nat.mod_lt _ (by decide)
  generalize va.toBitVec.toNat % 2 ^ 31 = h at la' ⊢
  have s1 : nI h >>> ((1 : Int32) &&& 31) = nI (h / 2 ^ 1) := pk_shrN la' _ 1 (by decide)
  have s2 : nI h >>> ((2 : Int32) &&& 31) = nI (h / 2 ^ 2) := pk_shrN la' _ 2 (by decide)
  have e2 : 2 + (nI h - nI h / 2 * 2) = nI (2 + h % 2) := by
    have e : nI h - nI h / 2 * 2 = nI (h % 2) := pk_rem (d := 2) la' (by decide) (by decide)
    rw [e]
    exact nI_add 2 _
  have e3 : 2 + (nI (h / 2 ^ 1) - nI (h / 2 ^ 1) / 3 * 3) = nI (2 + h / 2 ^ 1 % 3) := by
    have e : nI (h / 2 ^ 1) - nI (h / 2 ^ 1) / 3 * 3 = nI (h / 2 ^ 1 % 3) := pk_rem (d := 3) (by omega) (by decide) (by decide)
    rw [e]
    exact nI_add 2 _
  have e4 : 1 + (nI (h / 2 ^ 2) - nI (h / 2 ^ 2) / 3 * 3) = nI (1 + h / 2 ^ 2 % 3) := by
    have e : nI (h / 2 ^ 2) - nI (h / 2 ^ 2) / 3 * 3 = nI (h / 2 ^ 2 % 3) := pk_rem (d := 3) (by omega) (by decide) (by decide)
    rw [e]
    exact nI_add 1 _
  refine nm_e ⟨by decide, nm_r e2 ⟨by decide, ?_⟩⟩
  rw [s1, s2]
  refine nm_r e3 ⟨by decide, nm_r e4 ⟨12, 1403, by decide, by decide, ?_⟩⟩
  unfold wpX_init
  refine ⟨by decide, by decide, by decide, by decide, by decide, by decide, by decide, by decide, by decide, by decide, by decide, by decide, by decide, by decide, by decide, by decide, by decide, by decide, by decide, by decide, by decide, by decide, by decide, by decide, ?_⟩
  refine pl_clamp (a := 1) (b := 8) rfl (by omega) (by omega) (by decide) (pl_clamp (a := 2) (b := 8) rfl (by omega) (by omega) (by decide) (pl_clamp (a := 1) (b := 100) rfl (by omega) (by omega) (by decide) (pl_clamp (a := 8) (b := 32) (n := 16) rfl (by omega) (by omega) (by decide) ⟨9, ?_⟩)))
  refine px_in1 (f0 := nI (2 + h % 2)) (f1 := nI (2 + h / 2 ^ 1 % 3)) (f2 := nI (1 + h / 2 ^ 2 % 3)) (f3 := nI 16) (f4 := 0) (f5 := 0) (xh := fun _ => 0) ?_ 8 0 (fun _ => 0) (fun _ => 0) (fun _ => 0) rfl lt_0
  intro xs' xp xq xh h1 h2
  refine ⟨L + 1, ?_⟩
  refine lw_kl (nc := 2 + h % 2) (nr := 2 + h / 2 ^ 1 % 3) hL (by omega) (by omega) (by omega) (by omega) L 1 _ _ _ _ _ _ _ _ _ _ _ _ _ _ _ _ _ _ _ _ _ _ _ _ _ _ _ _ _ _ _ _ _ _ (by omega) (by decide) ?_
  exact lw_jm (nl := 1 + h / 2 ^ 2 % 3) (nt := 16) (ck := 0) (bg := 0) (pl_start (by omega) (by omega) (by omega) (by omega) (fun _ _ => rfl) (fun c h => (h1 c h).1) (fun c h => (h1 c h).2.1) (fun c h => (h1 c h).2.2) (fun _ _ => rfl) h2 _ _ _ _ (fun _ => 0) (fun _ => 0) (fun _ => 0) (fun _ => 0) (fun _ => 0)) (lw_i_start (by omega) (by omega)) (fun t lt => by omega) (fun s _ hs => ⟨pb_zero.mp rfl s hs, pb_zero.mp rfl s hs, pb_zero.mp rfl s hs⟩)
end LWI
