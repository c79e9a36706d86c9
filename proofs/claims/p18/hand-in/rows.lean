section
section PLA
/-! numbers and stores -/
theorem pl_us {f : Nat → Int32} {k : Nat} {x : Int32} : upd f k x k = x := if_pos rfl
theorem pl_un {f : Nat → Int32} {k j : Nat} {x : Int32} (h : j ≠ k) : upd f k x j = f j := if_neg h
def pl_nu (f : Nat → Nat) (k x : Nat) : Nat → Nat := fun j => if j = k then x else f j
theorem pl_ns {f : Nat → Nat} {k x : Nat} : pl_nu f k x k = x := if_pos rfl
theorem pl_nn {f : Nat → Nat} {k j x : Nat} (h : j ≠ k) : pl_nu f k x j = f j := if_neg h
theorem pl_ne1 {a : Nat} (h : a < 2 ^ 31) : ¬ nI a = -1 := by
  intro e
  have := nI_pos (n := a) h
  rw [e] at this
  exact this (by decide)
theorem pl_im {a b : Nat} (h : nI a = nI b) (ha : a < 2 ^ 31) (hb : b < 2 ^ 31) : a = b := (nI_eq ha hb).mp h
theorem pl_21 : ¬ (2 : Int32) = 1 := by decide
theorem pl_12 : ¬ (1 : Int32) = 2 := by decide
theorem pl_13 : ¬ (1 : Int32) = 3 := by decide
theorem pl_23 : ¬ (2 : Int32) = 3 := by decide
theorem pl_32 : ¬ (3 : Int32) = 2 := by decide
theorem pl_42 : ¬ (4 : Int32) = 2 := by decide
theorem pl_43 : ¬ (4 : Int32) = 3 := by decide
theorem pl_02 : ¬ (0 : Int32) = 2 := by decide
/-! how many of the first n have no stamp -/
def pl_zc (P : Nat → Nat) : Nat → Nat
  | 0 => 0
  | n + 1 => pl_zc P n + (if P n = 0 then 1 else 0)
theorem pl_zc_s {P : Nat → Nat} {n : Nat} : pl_zc P (n + 1) = pl_zc P n + (if P n = 0 then 1 else 0) := rfl
theorem pl_zc_hi {P : Nat → Nat} {k x : Nat} : ∀ n, n ≤ k → pl_zc (pl_nu P k x) n = pl_zc P n := by
  intro n
  induction n with
  | zero => intro _; rfl
  | succ n ih =>
    intro h
    rw [pl_zc_s, pl_zc_s, ih (by omega), pl_nn (by omega)]
theorem pl_zc_lo {P : Nat → Nat} {k x : Nat} (hk : P k = 0) (hx : x ≠ 0) : ∀ n, k < n → pl_zc (pl_nu P k x) n + 1 = pl_zc P n := by
  intro n
  induction n with
  | zero => intro h; omega
  | succ n ih =>
    intro h
    rw [pl_zc_s, pl_zc_s]
    by_cases e : n = k
    · subst e
      rw [pl_zc_hi n (Nat.le_refl n), pl_ns, if_neg hx, if_pos hk]
    · have := ih (by omega)
      rw [pl_nn e]
      omega
/-- the greatest of 1 .. n with Pr, or none -/
theorem pl_great (Pr : Nat → Prop) : ∀ n, (∃ p, 1 ≤ p ∧ p ≤ n ∧ Pr p ∧ ∀ q, p < q → q ≤ n → ¬ Pr q) ∨ (∀ q, 1 ≤ q → q ≤ n → ¬ Pr q) := by
  intro n
  induction n with
  | zero => exact Or.inr fun q h1 h2 => by omega
  | succ n ih =>
    by_cases h : Pr (n + 1)
    · exact Or.inl ⟨n + 1, by omega, Nat.le_refl _, h, fun q h1 h2 => by omega⟩
    · rcases ih with ⟨p, h1, h2, h3, h4⟩ | h0
      · refine Or.inl ⟨p, h1, by omega, h3, fun q hq hn => ?_⟩
        by_cases e : q = n + 1
        · rw [e]; exact h
        · exact h4 q hq (by omega)
      · refine Or.inr fun q hq hn => ?_
        by_cases e : q = n + 1
        · rw [e]; exact h
        · exact h0 q hq (by omega)
/-! what the two sides keep: X's arrays xs xp xq xg xv xf xl xc xh xw xz, Y's ym yf ys yp yq yl yg yv, the phases ph alike; S P: start and stamp of a transaction by its number; M: a client's transaction and one, or 0 -/
def pl_SZ (nc nr nl nt ck bg : Nat) (P : Nat → Nat) : Prop :=
  1 ≤ nc ∧ nc ≤ 8 ∧ 2 ≤ nr ∧ nr ≤ 8 ∧ 1 ≤ nl ∧ nl ≤ 100 ∧ 8 ≤ nt ∧ nt ≤ 32 ∧ bg ≤ nt ∧ ck + pl_zc P bg ≤ 2 * bg
def pl_TS (ck bg : Nat) (S : Nat → Nat) (ys : Nat → Int32) : Prop := ∀ t, t < bg → ys t = nI (S t) ∧ 1 ≤ S t ∧ S t ≤ ck
def pl_TI (bg : Nat) (S : Nat → Nat) : Prop := ∀ t t', t < t' → t' < bg → S t < S t'
def pl_TP (ck : Nat) (P : Nat → Nat) (yp : Nat → Int32) : Prop := ∀ t, t < 32 → yp t = nI (P t) ∧ P t ≤ ck
def pl_TJ (P : Nat → Nat) : Prop := ∀ t t', t < 32 → t' < 32 → P t = P t' → P t = 0 ∨ t = t'
def pl_TN (bg : Nat) (P : Nat → Nat) (yf yg : Nat → Int32) : Prop := ∀ t, bg ≤ t → t < 32 → yf t = 0 ∧ P t = 0 ∧ ∀ r, r < 8 → yg (t * 8 + r) = 0
def pl_TR (nr : Nat) (yg : Nat → Int32) : Prop := ∀ t r, t < 32 → nr ≤ r → r < 8 → yg (t * 8 + r) = 0
def pl_T3 (P : Nat → Nat) (yf : Nat → Int32) : Prop := ∀ t, t < 32 → yf t = 3 → P t ≠ 0
def pl_CI (M : Nat → Nat) (xs xp xq xg : Nat → Int32) : Prop := ∀ c, c < 8 → M c = 0 → xs c = -1 ∧ xp c = -1 ∧ xq c = -1 ∧ ∀ r, r < 8 → xg (c * 8 + r) = 0
def pl_CA (bg : Nat) (S P M : Nat → Nat) (xs xp xq ym yq : Nat → Int32) : Prop :=
  ∀ c t, c < 8 → M c = t + 1 → t < bg ∧ ym c = nI t ∧ xs c = nI (S t) ∧ xp c = (if P t = 0 then -1 else nI (P t)) ∧ xq c = yq t ∧ (yq t = -1 ∨ ¬ yq t < 0)
def pl_CJ (M : Nat → Nat) : Prop := ∀ c c' t, c < 8 → c' < 8 → M c = t + 1 → M c' = t + 1 → c = c'
def pl_CG (M : Nat → Nat) (xg xv yg yv : Nat → Int32) : Prop :=
  ∀ c t r, c < 8 → M c = t + 1 → r < 8 → xg (c * 8 + r) = yg (t * 8 + r) ∧ (yg (t * 8 + r) ≠ 0 → xv (c * 8 + r) = yv (t * 8 + r))
def pl_ok (ph yf yg : Nat → Int32) (P : Nat → Nat) (c t : Nat) : Prop :=
  (ph c = 1 ∧ yf t = 1 ∧ P t = 0 ∧ ∀ r, r < 8 → yg (t * 8 + r) ≠ 2) ∨ (ph c = 2 ∧ (yf t = 2 ∨ yf t = 4) ∧ P t = 0) ∨ (ph c = 3 ∧ (yf t = 2 ∨ yf t = 4) ∧ P t ≠ 0) ∨ (ph c = 4 ∧ yf t = 3)
def pl_CF (P M : Nat → Nat) (ph yf yg : Nat → Int32) : Prop := ∀ c, c < 8 → (M c = 0 ∧ ph c = 0) ∨ ∃ t, M c = t + 1 ∧ pl_ok ph yf yg P c t
def pl_DF (bg : Nat) (S : Nat → Nat) (xf yf : Nat → Int32) : Prop := ∀ t, t < bg → xf (S t) = yf t
def pl_DL (bg : Nat) (S : Nat → Nat) (xl yf yl : Nat → Int32) : Prop := ∀ t, t < bg → yf t = 2 → xl (S t) = yl t
def pl_DC (bg : Nat) (S P : Nat → Nat) (xc yf : Nat → Int32) : Prop := ∀ t, t < bg → yf t = 3 → xc (S t) = nI (P t)
def pl_DN (bg : Nat) (S : Nat → Nat) (xf : Nat → Int32) : Prop := ∀ s, 1 ≤ s → s ≤ 64 → (∀ t, t < bg → S t ≠ s) → xf s = 0
def pl_HE (nr bg : Nat) (S : Nat → Nat) (xh yf yg : Nat → Int32) : Prop := ∀ r t, r < nr → t < bg → yf t = 2 → yg (t * 8 + r) = 2 → xh r = nI (S t)
def pl_HX (nr bg : Nat) (S : Nat → Nat) (xh yf yg : Nat → Int32) : Prop := ∀ r, r < nr → xh r = -1 ∨ ∃ t, t < bg ∧ yf t = 2 ∧ yg (t * 8 + r) = 2 ∧ xh r = nI (S t)
def pl_VE (bg : Nat) (P : Nat → Nat) (xw xz yf yg yv : Nat → Int32) : Prop :=
  ∀ r t, r < 8 → t < bg → yf t = 3 → yg (t * 8 + r) ≠ 0 → xw (r * 65 + P t) = 1 ∧ xz (r * 65 + P t) = yv (t * 8 + r)
def pl_VX (bg : Nat) (P : Nat → Nat) (xw yf yg : Nat → Int32) : Prop :=
  ∀ r p, r < 8 → 1 ≤ p → p ≤ 64 → xw (r * 65 + p) ≠ 0 → ∃ t, t < bg ∧ yf t = 3 ∧ yg (t * 8 + r) ≠ 0 ∧ P t = p
def pl_R (nc nr nl nt ck bg : Nat) (S P M : Nat → Nat) (ph xs xp xq xg xv xf xl xc xh xw xz ym yf ys yp yq yl yg yv : Nat → Int32) : Prop :=
  pl_SZ nc nr nl nt ck bg P ∧ pl_TS ck bg S ys ∧ pl_TI bg S ∧ pl_TP ck P yp ∧ pl_TJ P ∧ pl_TN bg P yf yg ∧ pl_TR nr yg ∧ pl_T3 P yf ∧
  pl_CI M xs xp xq xg ∧ pl_CA bg S P M xs xp xq ym yq ∧ pl_CJ M ∧ pl_CG M xg xv yg yv ∧ pl_CF P M ph yf yg ∧
  pl_DF bg S xf yf ∧ pl_DL bg S xl yf yl ∧ pl_DC bg S P xc yf ∧ pl_DN bg S xf ∧ pl_HE nr bg S xh yf yg ∧ pl_HX nr bg S xh yf yg ∧
  pl_VE bg P xw xz yf yg yv ∧ pl_VX bg P xw yf yg
theorem pl_Sj {bg : Nat} {S : Nat → Nat} (h : pl_TI bg S) {t t' : Nat} (ht : t < bg) (ht' : t' < bg) (e : t ≠ t') : S t ≠ S t' := by
  intro E
  rcases Nat.lt_trichotomy t t' with l | l | l
  · have := h t t' l ht'; omega
  · exact e l
  · have := h t' t l ht; omega
/-- a client's cells cleared; a start's holds ended -/
def pl_zr (c : Nat) (f : Nat → Int32) : Nat → Int32 := fun j => if c * 8 ≤ j ∧ j < c * 8 + 8 then 0 else f j
theorem pl_zr_i {c r : Nat} {f : Nat → Int32} (h : r < 8) : pl_zr c f (c * 8 + r) = 0 := if_pos (by omega)
theorem pl_zr_o {c c' r : Nat} {f : Nat → Int32} (h : r < 8) (e : c' ≠ c) : pl_zr c f (c' * 8 + r) = f (c' * 8 + r) := if_neg (by omega)
def pl_eh (nr : Nat) (x : Int32) (f : Nat → Int32) : Nat → Int32 := fun r => if r < nr ∧ f r = x then -1 else f r
theorem pl_eh_i {nr r : Nat} {x : Int32} {f : Nat → Int32} (h : r < nr) (e : f r = x) : pl_eh nr x f r = -1 := if_pos ⟨h, e⟩
theorem pl_eh_o {nr r : Nat} {x : Int32} {f : Nat → Int32} (e : f r ≠ x) : pl_eh nr x f r = f r := if_neg fun z => e z.2
theorem pl_c2 {f : Nat → Int32} {a b a' b' : Nat} {x : Int32} (hb : b < 8) (hb' : b' < 8) (e : a' ≠ a) : upd f (a * 8 + b) x (a' * 8 + b') = f (a' * 8 + b') := pl_un (by omega)
theorem pl_c3 {f : Nat → Int32} {a b b' : Nat} {x : Int32} (e : b' ≠ b) : upd f (a * 8 + b) x (a * 8 + b') = f (a * 8 + b') := pl_un (by omega)
end PLA
end
section
section PLB
variable {nc nr nl nt ck bg : Nat} {S P M : Nat → Nat} {ph xs xp xq xg xv xf xl xc xh xw xz ym yf ys yp yq yl yg yv : Nat → Int32}
/-! a client becomes idle -/
theorem pl_idle (H : pl_R nc nr nl nt ck bg S P M ph xs xp xq xg xv xf xl xc xh xw xz ym yf ys yp yq yl yg yv) {c : Nat} (hc : c < 8) :
    pl_R nc nr nl nt ck bg S P (pl_nu M c 0) (upd ph c 0) (upd xs c (-1)) (upd xp c (-1)) (upd xq c (-1)) (pl_zr c xg) xv xf xl xc xh xw xz ym yf ys yp yq yl yg yv := by
  obtain ⟨hSZ, hTS, hTI, hTP, hTJ, hTN, hTR, hT3, hCI, hCA, hCJ, hCG, hCF, hDF, hDL, hDC, hDN, hHE, hHX, hVE, hVX⟩ := H
  have hM : ∀ c' t, pl_nu M c 0 c' = t + 1 → c' ≠ c ∧ M c' = t + 1 := by
    intro c' t h
    by_cases e : c' = c
    · rw [e, pl_ns] at h; omega
    · rw [pl_nn e] at h; exact ⟨e, h⟩
  refine ⟨hSZ, hTS, hTI, hTP, hTJ, hTN, hTR, hT3, ?_, ?_, ?_, ?_, ?_, hDF, hDL, hDC, hDN, hHE, hHX, hVE, hVX⟩
  · intro c' hc' h
    by_cases e : c' = c
    · rw [e]
      exact ⟨pl_us, pl_us, pl_us, fun r hr => pl_zr_i hr⟩
    · rw [pl_nn e] at h
      obtain ⟨h1, h2, h3, h4⟩ := hCI c' hc' h
      rw [pl_un e, pl_un e, pl_un e]
      exact ⟨h1, h2, h3, fun r hr => by rw [pl_zr_o hr e]; exact h4 r hr⟩
  · intro c' t hc' h
    obtain ⟨e, h⟩ := hM c' t h
    rw [pl_un e, pl_un e, pl_un e]
    exact hCA c' t hc' h
  · intro c1 c2 t h1 h2 e1 e2
    exact hCJ c1 c2 t h1 h2 (hM c1 t e1).2 (hM c2 t e2).2
  · intro c' t r hc' h hr
    obtain ⟨e, h⟩ := hM c' t h
    rw [pl_zr_o hr e]
    exact hCG c' t r hc' h hr
  · intro c' hc'
    by_cases e : c' = c
    · rw [e]
      exact Or.inl ⟨pl_ns, pl_us⟩
    · unfold pl_ok
      rw [pl_nn e, pl_un e]
      exact hCF c' hc'
/-! a pending transaction is rolled back -/
theorem pl_roll (H : pl_R nc nr nl nt ck bg S P M ph xs xp xq xg xv xf xl xc xh xw xz ym yf ys yp yq yl yg yv) {t : Nat} (ht : t < bg) (hf : yf t = 2) :
    pl_R nc nr nl nt ck bg S P M ph xs xp xq xg xv (upd xf (S t) 4) xl xc (pl_eh nr (nI (S t)) xh) xw xz ym (upd yf t 4) ys yp yq yl yg yv := by
  obtain ⟨hSZ, hTS, hTI, hTP, hTJ, hTN, hTR, hT3, hCI, hCA, hCJ, hCG, hCF, hDF, hDL, hDC, hDN, hHE, hHX, hVE, hVX⟩ := H
  have hb : bg ≤ 32 ∧ ck ≤ 64 := by unfold pl_SZ at hSZ; omega
  have hS : ∀ q, q < bg → S q < 2 ^ 31 := fun q hq => by have := (hTS q hq).2.2; omega
  have hn : ∀ q, q < bg → q ≠ t → nI (S q) ≠ nI (S t) := fun q hq e z => pl_Sj hTI hq ht e (pl_im z (hS q hq) (hS t ht))
  have h2 : ∀ q, upd yf t 4 q = 2 → q ≠ t ∧ yf q = 2 := by
    intro q h
    by_cases e : q = t
    · rw [e, pl_us] at h; exact absurd h pl_42
    · rw [pl_un e] at h; exact ⟨e, h⟩
  have h3 : ∀ q, upd yf t 4 q = 3 → q ≠ t ∧ yf q = 3 := by
    intro q h
    by_cases e : q = t
    · rw [e, pl_us] at h; exact absurd h pl_43
    · rw [pl_un e] at h; exact ⟨e, h⟩
  refine ⟨hSZ, hTS, hTI, hTP, hTJ, ?_, hTR, ?_, hCI, hCA, hCJ, hCG, ?_, ?_, ?_, ?_, ?_, ?_, ?_, ?_, ?_⟩
  · intro q h1 h2
    rw [pl_un (by omega)]
    exact hTN q h1 h2
  · intro q hq h
    exact hT3 q hq (h3 q h).2
  · intro c hc
    rcases hCF c hc with h | ⟨q, hm, h⟩
    · exact Or.inl h
    · refine Or.inr ⟨q, hm, ?_⟩
      unfold pl_ok at h ⊢
      by_cases e : q = t
      · subst e
        rw [pl_us]
        rcases h with h | h | h | h
        · rw [hf] at h; exact absurd h.2.1 pl_21
        · exact Or.inr (Or.inl ⟨h.1, Or.inr rfl, h.2.2⟩)
        · exact Or.inr (Or.inr (Or.inl ⟨h.1, Or.inr rfl, h.2.2⟩))
        · rw [hf] at h; exact absurd h.2 pl_23
      · rw [pl_un e]; exact h
  · intro q hq
    by_cases e : q = t
    · rw [e, pl_us, pl_us]
    · rw [pl_un e, pl_un (pl_Sj hTI hq ht e)]; exact hDF q hq
  · intro q hq h
    exact hDL q hq (h2 q h).2
  · intro q hq h
    exact hDC q hq (h3 q h).2
  · intro s h1 h2 h
    rw [pl_un (fun e => h t ht e.symm)]
    exact hDN s h1 h2 h
  · intro r q hr hq h hg
    obtain ⟨e, h⟩ := h2 q h
    have z := hHE r q hr hq h hg
    rw [pl_eh_o (by rw [z]; exact hn q hq e)]
    exact z
  · intro r hr
    by_cases z : xh r = nI (S t)
    · exact Or.inl (pl_eh_i hr z)
    · rw [pl_eh_o z]
      rcases hHX r hr with h | ⟨q, hq, h1, h2, h3⟩
      · exact Or.inl h
      · have e : q ≠ t := fun e => z (by rw [h3, e])
        exact Or.inr ⟨q, hq, by rw [pl_un e]; exact h1, h2, h3⟩
  · intro r q hr hq h hg
    exact hVE r q hr hq (h3 q h).2 hg
  · intro r p hr h1 h2 h
    obtain ⟨q, hq, hq3, hg, hp⟩ := hVX r p hr h1 h2 h
    have e : q ≠ t := fun e => by rw [e, hf] at hq3; exact pl_23 hq3
    exact ⟨q, hq, by rw [pl_un e]; exact hq3, hg, hp⟩
/-! a client begins -/
theorem pl_beg (H : pl_R nc nr nl nt ck bg S P M ph xs xp xq xg xv xf xl xc xh xw xz ym yf ys yp yq yl yg yv) {c : Nat} (hc : c < 8) (hm : M c = 0) (hbt : bg < nt) :
    pl_R nc nr nl nt (ck + 1) (bg + 1) (pl_nu S bg (ck + 1)) P (pl_nu M c (bg + 1)) (upd ph c 1) (upd xs c (nI (ck + 1))) xp xq xg xv (upd xf (ck + 1) 1) xl xc xh xw xz (upd ym c (nI bg)) (upd yf bg 1) (upd ys bg (nI (ck + 1))) yp (upd yq bg (-1)) yl yg yv := by
  obtain ⟨hSZ, hTS, hTI, hTP, hTJ, hTN, hTR, hT3, hCI, hCA, hCJ, hCG, hCF, hDF, hDL, hDC, hDN, hHE, hHX, hVE, hVX⟩ := H
  have hb : nt ≤ 32 := by unfold pl_SZ at hSZ; omega
  obtain ⟨hN1, hN2, hN3⟩ := hTN bg (Nat.le_refl bg) (by omega)
  have hM : ∀ c' t, pl_nu M c (bg + 1) c' = t + 1 → (c' = c ∧ t = bg) ∨ (c' ≠ c ∧ M c' = t + 1) := by
    intro c' t h
    by_cases e : c' = c
    · rw [e, pl_ns] at h; exact Or.inl ⟨e, by omega⟩
    · rw [pl_nn e] at h; exact Or.inr ⟨e, h⟩
  have hlt : ∀ c' t, c' < 8 → M c' = t + 1 → t < bg := fun c' t h1 h2 => (hCA c' t h1 h2).1
  have h2 : ∀ q, q < bg + 1 → upd yf bg 1 q = 2 → q < bg ∧ yf q = 2 := by
    intro q hq h
    by_cases e : q = bg
    · rw [e, pl_us] at h; exact absurd h pl_12
    · rw [pl_un e] at h; exact ⟨by omega, h⟩
  have h3 : ∀ q, upd yf bg 1 q = 3 → q ≠ bg ∧ yf q = 3 := by
    intro q h
    by_cases e : q = bg
    · rw [e, pl_us] at h; exact absurd h pl_13
    · rw [pl_un e] at h; exact ⟨e, h⟩
  have hSo : ∀ q, q < bg → pl_nu S bg (ck + 1) q = S q := fun q hq => pl_nn (by omega)
  refine ⟨?_, ?_, ?_, ?_, hTJ, ?_, hTR, ?_, ?_, ?_, ?_, ?_, ?_, ?_, ?_, ?_, ?_, ?_, ?_, ?_, ?_⟩
  · unfold pl_SZ at hSZ ⊢
    rw [pl_zc_s, if_pos hN2]
    omega
  · intro q hq
    by_cases e : q = bg
    · rw [e, pl_us, pl_ns]; exact ⟨rfl, by omega, by omega⟩
    · rw [pl_un e, pl_nn e]
      obtain ⟨a, b, d⟩ := hTS q (by omega)
      exact ⟨a, b, by omega⟩
  · intro q q' h1 h2
    rw [hSo q (by omega)]
    by_cases e : q' = bg
    · rw [e, pl_ns]
      have := (hTS q (by omega)).2.2
      omega
    · rw [pl_nn e]; exact hTI q q' h1 (by omega)
  · intro q hq
    obtain ⟨a, b⟩ := hTP q hq
    exact ⟨a, by omega⟩
  · intro q h1 h2
    rw [pl_un (by omega)]
    exact hTN q (by omega) h2
  · intro q hq h
    exact hT3 q hq (h3 q h).2
  · intro c' hc' h
    by_cases e : c' = c
    · rw [e, pl_ns] at h; omega
    · rw [pl_nn e] at h
      rw [pl_un e]
      exact hCI c' hc' h
  · intro c' t hc' h
    rcases hM c' t h with ⟨e, e'⟩ | ⟨e, h⟩
    · subst e; subst e'
      obtain ⟨i1, i2, i3, i4⟩ := hCI c' hc hm
      rw [pl_us, pl_us, pl_us, pl_ns, if_pos hN2]
      exact ⟨by omega, rfl, rfl, i2, i3, Or.inl rfl⟩
    · have l := hlt c' t hc' h
      rw [pl_un e, pl_un e, pl_un (show t ≠ bg by omega), hSo t l]
      obtain ⟨a, b⟩ := hCA c' t hc' h
      exact ⟨by omega, b⟩
  · intro c1 c2 t l1 l2 e1 e2
    rcases hM c1 t e1 with ⟨a1, b1⟩ | ⟨a1, b1⟩
    · rcases hM c2 t e2 with ⟨a2, b2⟩ | ⟨a2, b2⟩
      · omega
      · have := hlt c2 t l2 b2; omega
    · rcases hM c2 t e2 with ⟨a2, b2⟩ | ⟨a2, b2⟩
      · have := hlt c1 t l1 b1; omega
      · exact hCJ c1 c2 t l1 l2 b1 b2
  · intro c' t r hc' h hr
    rcases hM c' t h with ⟨e, e'⟩ | ⟨e, h⟩
    · subst e; subst e'
      rw [(hCI c' hc hm).2.2.2 r hr, hN3 r hr]
      exact ⟨rfl, fun z => absurd rfl z⟩
    · exact hCG c' t r hc' h hr
  · intro c' hc'
    by_cases e : c' = c
    · rw [e]
      refine Or.inr ⟨bg, pl_ns, Or.inl ⟨pl_us, pl_us, hN2, fun r hr => ?_⟩⟩
      rw [hN3 r hr]; exact pl_02
    · rw [pl_nn e]
      rcases hCF c' hc' with h | ⟨q, h1, h⟩
      · exact Or.inl (by rw [pl_un e]; exact h)
      · refine Or.inr ⟨q, h1, ?_⟩
        have l := hlt c' q hc' h1
        unfold pl_ok at h ⊢
        rw [pl_un e, pl_un (show q ≠ bg by omega)]
        exact h
  · intro q hq
    by_cases e : q = bg
    · rw [e, pl_us, pl_ns, pl_us]
    · have l := (hTS q (by omega)).2.2
      rw [pl_nn e, pl_un e, pl_un (show S q ≠ ck + 1 by omega)]
      exact hDF q (by omega)
  · intro q hq h
    obtain ⟨l, h⟩ := h2 q hq h
    rw [hSo q l]; exact hDL q l h
  · intro q hq h
    obtain ⟨e, h⟩ := h3 q h
    rw [hSo q (by omega)]; exact hDC q (by omega) h
  · intro s h1 h2 h
    have z := h bg (by omega)
    rw [pl_ns] at z
    rw [pl_un (fun e => z e.symm)]
    refine hDN s h1 h2 fun q hq => ?_
    have z' := h q (by omega)
    rw [hSo q hq] at z'
    exact z'
  · intro r q hr hq h hg
    obtain ⟨l, h⟩ := h2 q hq h
    rw [hSo q l]; exact hHE r q hr l h hg
  · intro r hr
    rcases hHX r hr with h | ⟨q, hq, h1, h2, h3⟩
    · exact Or.inl h
    · exact Or.inr ⟨q, by omega, by rw [pl_un (by omega)]; exact h1, h2, by rw [hSo q hq]; exact h3⟩
  · intro r q hr hq h hg
    obtain ⟨e, h⟩ := h3 q h
    exact hVE r q hr (by omega) h hg
  · intro r p hr h1 h2 h
    obtain ⟨q, hq, hq3, hg, hp⟩ := hVX r p hr h1 h2 h
    exact ⟨q, by omega, by rw [pl_un (by omega)]; exact hq3, hg, hp⟩
/-! a client puts -/
theorem pl_put (H : pl_R nc nr nl nt ck bg S P M ph xs xp xq xg xv xf xl xc xh xw xz ym yf ys yp yq yl yg yv) {c t r : Nat} {x : Int32} (hc : c < 8) (hm : M c = t + 1) (hp : ph c = 1) (hr : r < nr) :
    pl_R nc nr nl nt ck bg S P M ph xs xp xq (upd xg (c * 8 + r) 1) (upd xv (c * 8 + r) x) xf xl xc xh xw xz ym yf ys yp yq yl (upd yg (t * 8 + r) 1) (upd yv (t * 8 + r) x) := by
  obtain ⟨hSZ, hTS, hTI, hTP, hTJ, hTN, hTR, hT3, hCI, hCA, hCJ, hCG, hCF, hDF, hDL, hDC, hDN, hHE, hHX, hVE, hVX⟩ := H
  have hb : bg ≤ 32 ∧ nr ≤ 8 := by unfold pl_SZ at hSZ; omega
  have hr8 : r < 8 := by omega
  have ht : t < bg := (hCA c t hc hm).1
  have hf : yf t = 1 := by
    rcases hCF c hc with h | ⟨q, h1, h⟩
    · omega
    · have e : q = t := by omega
      subst e
      unfold pl_ok at h
      rw [hp] at h
      rcases h with h | h | h | h
      · exact h.2.1
      · exact absurd h.1 pl_12
      · exact absurd h.1 pl_13
      · exact absurd h.1 (by decide)
  have hne : ∀ q y, yf q = y → ¬ (1 : Int32) = y → q ≠ t := fun q y h z e => z (by rw [← h, e, hf])
  refine ⟨hSZ, hTS, hTI, hTP, hTJ, ?_, ?_, hT3, ?_, hCA, hCJ, ?_, ?_, hDF, hDL, hDC, hDN, ?_, ?_, ?_, ?_⟩
  · intro q h1 h2
    obtain ⟨a, b, d⟩ := hTN q h1 h2
    exact ⟨a, b, fun r' hr' => by rw [pl_c2 hr8 hr' (by omega)]; exact d r' hr'⟩
  · intro q r' hq h1 h2
    rw [pl_un (by omega)]
    exact hTR q r' hq h1 h2
  · intro c' hc' h
    obtain ⟨a, b, d, e⟩ := hCI c' hc' h
    exact ⟨a, b, d, fun r' hr' => by rw [pl_c2 hr8 hr' (fun z => by rw [z] at h; omega)]; exact e r' hr'⟩
  · intro c' q r' hc' h hr'
    by_cases e : c' = c
    · subst e
      have e : q = t := by omega
      subst e
      by_cases e' : r' = r
      · subst e'
        rw [pl_us, pl_us, pl_us, pl_us]
        exact ⟨rfl, fun _ => rfl⟩
      · rw [pl_c3 e', pl_c3 e', pl_c3 e', pl_c3 e']
        exact hCG c' q r' hc' h hr'
    · have e2 : q ≠ t := fun z => e (hCJ c' c t hc' hc (by rw [← z]; exact h) hm)
      rw [pl_c2 hr8 hr' e, pl_c2 hr8 hr' e2, pl_c2 hr8 hr' e, pl_c2 hr8 hr' e2]
      exact hCG c' q r' hc' h hr'
  · intro c' hc'
    rcases hCF c' hc' with h | ⟨q, h1, h⟩
    · exact Or.inl h
    · refine Or.inr ⟨q, h1, ?_⟩
      unfold pl_ok at h ⊢
      rcases h with ⟨a, b, d, h⟩ | h | h | h
      · refine Or.inl ⟨a, b, d, fun r' hr' => ?_⟩
        by_cases e : q * 8 + r' = t * 8 + r
        · rw [e, pl_us]; exact pl_12
        · rw [pl_un e]; exact h r' hr'
      · exact Or.inr (Or.inl h)
      · exact Or.inr (Or.inr (Or.inl h))
      · exact Or.inr (Or.inr (Or.inr h))
  · intro r' q hr' hq h hg
    rw [pl_c2 hr8 (by omega) (hne q 2 h pl_12)] at hg
    exact hHE r' q hr' hq h hg
  · intro r' hr'
    rcases hHX r' hr' with h | ⟨q, hq, h1, h2, h3⟩
    · exact Or.inl h
    · exact Or.inr ⟨q, hq, h1, by rw [pl_c2 hr8 (by omega) (hne q 2 h1 pl_12)]; exact h2, h3⟩
  · intro r' q hr' hq h hg
    have e := hne q 3 h pl_13
    rw [pl_c2 hr8 hr' e] at hg ⊢
    exact hVE r' q hr' hq h hg
  · intro r' p hr' h1 h2 h
    obtain ⟨q, hq, hq3, hg, hp⟩ := hVX r' p hr' h1 h2 h
    exact ⟨q, hq, hq3, by rw [pl_c2 hr8 hr' (hne q 3 hq3 pl_13)]; exact hg, hp⟩
end PLB
end
section
section PLC
variable {nc nr nl nt ck bg : Nat} {S P M : Nat → Nat} {ph xs xp xq xg xv xf xl xc xh xw xz ym yf ys yp yq yl yg yv : Nat → Int32}
theorem pl_cf (h : pl_CF P M ph yf yg) {c t : Nat} (hc : c < 8) (hm : M c = t + 1) : pl_ok ph yf yg P c t := by
  rcases h c hc with h | ⟨q, h1, h⟩
  · omega
  · have e : q = t := by omega
    subst e
    exact h
theorem pl_ok1 {c t : Nat} (h : pl_ok ph yf yg P c t) (hp : ph c = 1) : yf t = 1 ∧ P t = 0 ∧ ∀ r, r < 8 → yg (t * 8 + r) ≠ 2 := by
  unfold pl_ok at h
  rw [hp] at h
  rcases h with h | h | h | h
  · exact h.2
  · exact absurd h.1 (by decide)
  · exact absurd h.1 (by decide)
  · exact absurd h.1 (by decide)
theorem pl_ok2 {c t : Nat} (h : pl_ok ph yf yg P c t) (hp : ph c = 2) : (yf t = 2 ∨ yf t = 4) ∧ P t = 0 := by
  unfold pl_ok at h
  rw [hp] at h
  rcases h with h | h | h | h
  · exact absurd h.1 (by decide)
  · exact h.2
  · exact absurd h.1 (by decide)
  · exact absurd h.1 (by decide)
theorem pl_ok3 {c t : Nat} (h : pl_ok ph yf yg P c t) (hp : ph c = 3) : (yf t = 2 ∨ yf t = 4) ∧ P t ≠ 0 := by
  unfold pl_ok at h
  rw [hp] at h
  rcases h with h | h | h | h
  · exact absurd h.1 (by decide)
  · exact absurd h.1 (by decide)
  · exact h.2
  · exact absurd h.1 (by decide)
theorem pl_ok4 {c t : Nat} (h : pl_ok ph yf yg P c t) (hp : ph c = 4) : yf t = 3 := by
  unfold pl_ok at h
  rw [hp] at h
  rcases h with h | h | h | h
  · exact absurd h.1 (by decide)
  · exact absurd h.1 (by decide)
  · exact absurd h.1 (by decide)
  · exact h.2
/-! the first prewritten row: the transaction is pending from here -/
theorem pl_pend (H : pl_R nc nr nl nt ck bg S P M ph xs xp xq xg xv xf xl xc xh xw xz ym yf ys yp yq yl yg yv) {c t r : Nat} (hc : c < 8) (hm : M c = t + 1) (hp : ph c = 1) (hr : r < nr) :
    pl_R nc nr nl nt ck bg S P M (upd ph c 2) xs xp (upd xq c (nI r)) xg xv (upd xf (S t) 2) (upd xl (S t) (nI nl)) xc xh xw xz ym (upd yf t 2) ys yp (upd yq t (nI r)) (upd yl t (nI nl)) yg yv := by
  obtain ⟨hSZ, hTS, hTI, hTP, hTJ, hTN, hTR, hT3, hCI, hCA, hCJ, hCG, hCF, hDF, hDL, hDC, hDN, hHE, hHX, hVE, hVX⟩ := H
  have hb : bg ≤ 32 ∧ nr ≤ 8 := by unfold pl_SZ at hSZ; omega
  have ht : t < bg := (hCA c t hc hm).1
  obtain ⟨hf, hP, hg2⟩ := pl_ok1 (pl_cf hCF hc hm) hp
  have h3 : ∀ q, upd yf t 2 q = 3 → q ≠ t ∧ yf q = 3 := by
    intro q h
    by_cases e : q = t
    · rw [e, pl_us] at h; exact absurd h pl_23
    · rw [pl_un e] at h; exact ⟨e, h⟩
  have hne : ∀ q y, yf q = y → ¬ (1 : Int32) = y → q ≠ t := fun q y h z e => z (by rw [← h, e, hf])
  refine ⟨hSZ, hTS, hTI, hTP, hTJ, ?_, hTR, ?_, ?_, ?_, hCJ, hCG, ?_, ?_, ?_, ?_, ?_, ?_, ?_, ?_, ?_⟩
  · intro q h1 h2
    rw [pl_un (by omega)]
    exact hTN q h1 h2
  · intro q hq h
    exact hT3 q hq (h3 q h).2
  · intro c' hc' h
    rw [pl_un (fun z => by rw [z] at h; omega)]
    exact hCI c' hc' h
  · intro c' q hc' h
    by_cases e : c' = c
    · subst e
      have e : q = t := by omega
      subst e
      obtain ⟨a, b, d, f, _⟩ := hCA c' q hc' h
      rw [pl_us, pl_us]
      exact ⟨a, b, d, f, rfl, Or.inr (nI_pos (by omega))⟩
    · have e2 : q ≠ t := fun z => e (hCJ c' c t hc' hc (by rw [← z]; exact h) hm)
      rw [pl_un e, pl_un e2]
      exact hCA c' q hc' h
  · intro c' hc'
    by_cases e : c' = c
    · rw [e]
      exact Or.inr ⟨t, hm, Or.inr (Or.inl ⟨pl_us, Or.inl pl_us, hP⟩)⟩
    · rcases hCF c' hc' with h | ⟨q, h1, h⟩
      · exact Or.inl (by rw [pl_un e]; exact h)
      · have e2 : q ≠ t := fun z => e (hCJ c' c t hc' hc (by rw [← z]; exact h1) hm)
        refine Or.inr ⟨q, h1, ?_⟩
        unfold pl_ok at h ⊢
        rw [pl_un e, pl_un e2]
        exact h
  · intro q hq
    by_cases e : q = t
    · rw [e, pl_us, pl_us]
    · rw [pl_un e, pl_un (pl_Sj hTI hq ht e)]; exact hDF q hq
  · intro q hq h
    by_cases e : q = t
    · rw [e, pl_us, pl_us]
    · rw [pl_un e] at h ⊢
      rw [pl_un (pl_Sj hTI hq ht e)]; exact hDL q hq h
  · intro q hq h
    exact hDC q hq (h3 q h).2
  · intro s h1 h2 h
    rw [pl_un (fun e => h t ht e.symm)]
    exact hDN s h1 h2 h
  · intro r' q hr' hq h hg
    by_cases e : q = t
    · rw [e] at hg; exact absurd hg (hg2 r' (by omega))
    · rw [pl_un e] at h; exact hHE r' q hr' hq h hg
  · intro r' hr'
    rcases hHX r' hr' with h | ⟨q, hq, h1, h2, h3⟩
    · exact Or.inl h
    · exact Or.inr ⟨q, hq, by rw [pl_un (hne q 2 h1 pl_12)]; exact h1, h2, h3⟩
  · intro r' q hr' hq h hg
    exact hVE r' q hr' hq (h3 q h).2 hg
  · intro r' p hr' h1 h2 h
    obtain ⟨q, hq, hq3, hg, hp⟩ := hVX r' p hr' h1 h2 h
    exact ⟨q, hq, by rw [pl_un (hne q 3 hq3 pl_13)]; exact hq3, hg, hp⟩
/-! a row prewritten by a pending transaction: it is held -/
theorem pl_hold (H : pl_R nc nr nl nt ck bg S P M ph xs xp xq xg xv xf xl xc xh xw xz ym yf ys yp yq yl yg yv) {c t r : Nat} (hc : c < 8) (hm : M c = t + 1) (hp : ph c = 2) (hf : yf t = 2) (hr : r < nr) (hh : xh r = -1) (hs : yg (t * 8 + r) ≠ 0) :
    pl_R nc nr nl nt ck bg S P M ph xs xp xq (upd xg (c * 8 + r) 2) xv xf xl xc (upd xh r (nI (S t))) xw xz ym yf ys yp yq yl (upd yg (t * 8 + r) 2) yv := by
  obtain ⟨hSZ, hTS, hTI, hTP, hTJ, hTN, hTR, hT3, hCI, hCA, hCJ, hCG, hCF, hDF, hDL, hDC, hDN, hHE, hHX, hVE, hVX⟩ := H
  have hb : bg ≤ 32 ∧ nr ≤ 8 ∧ ck ≤ 64 := by unfold pl_SZ at hSZ; omega
  have hr8 : r < 8 := by omega
  have ht : t < bg := (hCA c t hc hm).1
  have hS : ∀ q, q < bg → S q < 2 ^ 31 := fun q hq => by have := (hTS q hq).2.2; omega
  have hne : ∀ q, yf q = 3 → q ≠ t := fun q h e => pl_23 (by rw [← h, e, hf])
  refine ⟨hSZ, hTS, hTI, hTP, hTJ, ?_, ?_, hT3, ?_, hCA, hCJ, ?_, ?_, hDF, hDL, hDC, hDN, ?_, ?_, ?_, ?_⟩
  · intro q h1 h2
    obtain ⟨a, b, d⟩ := hTN q h1 h2
    exact ⟨a, b, fun r' hr' => by rw [pl_c2 hr8 hr' (by omega)]; exact d r' hr'⟩
  · intro q r' hq h1 h2
    rw [pl_un (by omega)]
    exact hTR q r' hq h1 h2
  · intro c' hc' h
    obtain ⟨a, b, d, e⟩ := hCI c' hc' h
    exact ⟨a, b, d, fun r' hr' => by rw [pl_c2 hr8 hr' (fun z => by rw [z] at h; omega)]; exact e r' hr'⟩
  · intro c' q r' hc' h hr'
    by_cases e : c' = c
    · subst e
      have e : q = t := by omega
      subst e
      by_cases e' : r' = r
      · subst e'
        rw [pl_us, pl_us]
        exact ⟨rfl, fun _ => (hCG c' q r' hc' h hr').2 hs⟩
      · rw [pl_c3 e', pl_c3 e']
        exact hCG c' q r' hc' h hr'
    · have e2 : q ≠ t := fun z => e (hCJ c' c t hc' hc (by rw [← z]; exact h) hm)
      rw [pl_c2 hr8 hr' e, pl_c2 hr8 hr' e2]
      exact hCG c' q r' hc' h hr'
  · intro c' hc'
    by_cases e : c' = c
    · rw [e]
      exact Or.inr ⟨t, hm, Or.inr (Or.inl ⟨hp, Or.inl hf, (pl_ok2 (pl_cf hCF hc hm) hp).2⟩)⟩
    · rcases hCF c' hc' with h | ⟨q, h1, h⟩
      · exact Or.inl h
      · have e2 : q ≠ t := fun z => e (hCJ c' c t hc' hc (by rw [← z]; exact h1) hm)
        refine Or.inr ⟨q, h1, ?_⟩
        unfold pl_ok at h ⊢
        rcases h with ⟨a, b, d, h⟩ | h | h | h
        · exact Or.inl ⟨a, b, d, fun r' hr' => by rw [pl_c2 hr8 hr' e2]; exact h r' hr'⟩
        · exact Or.inr (Or.inl h)
        · exact Or.inr (Or.inr (Or.inl h))
        · exact Or.inr (Or.inr (Or.inr h))
  · intro r' q hr' hq h hg
    by_cases e : r' = r
    · subst e
      rw [pl_us]
      by_cases e2 : q = t
      · rw [e2]
      · rw [pl_c2 hr8 hr8 e2] at hg
        have z := hHE r' q hr' hq h hg
        rw [hh] at z
        exact absurd z.symm (pl_ne1 (hS q hq))
    · rw [pl_un e]
      rw [pl_un (by omega)] at hg
      exact hHE r' q hr' hq h hg
  · intro r' hr'
    by_cases e : r' = r
    · subst e
      exact Or.inr ⟨t, ht, hf, pl_us, pl_us⟩
    · rw [pl_un e]
      rcases hHX r' hr' with h | ⟨q, hq, h1, h2, h3⟩
      · exact Or.inl h
      · exact Or.inr ⟨q, hq, h1, by rw [pl_un (by omega)]; exact h2, h3⟩
  · intro r' q hr' hq h hg
    rw [pl_c2 hr8 hr' (hne q h)] at hg
    exact hVE r' q hr' hq h hg
  · intro r' p hr' h1 h2 h
    obtain ⟨q, hq, hq3, hg, hp⟩ := hVX r' p hr' h1 h2 h
    exact ⟨q, hq, hq3, by rw [pl_c2 hr8 hr' (hne q hq3)]; exact hg, hp⟩
/-! another stage for a row that has one, of a transaction that isn't pending: prewritten after a roll-back, committed -/
theorem pl_stg (H : pl_R nc nr nl nt ck bg S P M ph xs xp xq xg xv xf xl xc xh xw xz ym yf ys yp yq yl yg yv) {c t r : Nat} {x : Int32} (hc : c < 8) (hm : M c = t + 1) (hp : ¬ ph c = 1) (hf : ¬ yf t = 2) (hr : r < nr) (hs : yg (t * 8 + r) ≠ 0) (hx : x ≠ 0) :
    pl_R nc nr nl nt ck bg S P M ph xs xp xq (upd xg (c * 8 + r) x) xv xf xl xc xh xw xz ym yf ys yp yq yl (upd yg (t * 8 + r) x) yv := by
  obtain ⟨hSZ, hTS, hTI, hTP, hTJ, hTN, hTR, hT3, hCI, hCA, hCJ, hCG, hCF, hDF, hDL, hDC, hDN, hHE, hHX, hVE, hVX⟩ := H
  have hb : bg ≤ 32 ∧ nr ≤ 8 ∧ ck ≤ 64 := by unfold pl_SZ at hSZ; omega
  have hr8 : r < 8 := by omega
  have ht : t < bg := (hCA c t hc hm).1
  have hne : ∀ q, yf q = 2 → q ≠ t := fun q h e => hf (by rw [← e]; exact h)
  have hg0 : ∀ q r', upd yg (t * 8 + r) x (q * 8 + r') ≠ 0 ↔ yg (q * 8 + r') ≠ 0 := by
    intro q r'
    by_cases e : q * 8 + r' = t * 8 + r
    · rw [e, pl_us]; exact ⟨fun _ => hs, fun _ => hx⟩
    · rw [pl_un e]
  refine ⟨hSZ, hTS, hTI, hTP, hTJ, ?_, ?_, hT3, ?_, hCA, hCJ, ?_, ?_, hDF, hDL, hDC, hDN, ?_, ?_, ?_, ?_⟩
  · intro q h1 h2
    obtain ⟨a, b, d⟩ := hTN q h1 h2
    exact ⟨a, b, fun r' hr' => by rw [pl_c2 hr8 hr' (by omega)]; exact d r' hr'⟩
  · intro q r' hq h1 h2
    rw [pl_un (by omega)]
    exact hTR q r' hq h1 h2
  · intro c' hc' h
    obtain ⟨a, b, d, e⟩ := hCI c' hc' h
    exact ⟨a, b, d, fun r' hr' => by rw [pl_c2 hr8 hr' (fun z => by rw [z] at h; omega)]; exact e r' hr'⟩
  · intro c' q r' hc' h hr'
    by_cases e : c' = c
    · subst e
      have e : q = t := by omega
      subst e
      by_cases e' : r' = r
      · subst e'
        rw [pl_us, pl_us]
        exact ⟨rfl, fun _ => (hCG c' q r' hc' h hr').2 hs⟩
      · rw [pl_c3 e', pl_c3 e']
        exact hCG c' q r' hc' h hr'
    · have e2 : q ≠ t := fun z => e (hCJ c' c t hc' hc (by rw [← z]; exact h) hm)
      rw [pl_c2 hr8 hr' e, pl_c2 hr8 hr' e2]
      exact hCG c' q r' hc' h hr'
  · intro c' hc'
    rcases hCF c' hc' with h | ⟨q, h1, h⟩
    · exact Or.inl h
    · refine Or.inr ⟨q, h1, ?_⟩
      unfold pl_ok at h ⊢
      rcases h with ⟨a, b, d, h⟩ | h | h | h
      · have e2 : q ≠ t := fun z => hp (by rw [hCJ c c' t hc hc' hm (by rw [← z]; exact h1)]; exact a)
        exact Or.inl ⟨a, b, d, fun r' hr' => by rw [pl_c2 hr8 hr' e2]; exact h r' hr'⟩
      · exact Or.inr (Or.inl h)
      · exact Or.inr (Or.inr (Or.inl h))
      · exact Or.inr (Or.inr (Or.inr h))
  · intro r' q hr' hq h hg
    rw [pl_c2 hr8 (by omega) (hne q h)] at hg
    exact hHE r' q hr' hq h hg
  · intro r' hr'
    rcases hHX r' hr' with h | ⟨q, hq, h1, h2, h3⟩
    · exact Or.inl h
    · exact Or.inr ⟨q, hq, h1, by rw [pl_c2 hr8 (by omega) (hne q h1)]; exact h2, h3⟩
  · intro r' q hr' hq h hg
    exact hVE r' q hr' hq h ((hg0 q r').mp hg)
  · intro r' p hr' h1 h2 h
    obtain ⟨q, hq, hq3, hg, hp⟩ := hVX r' p hr' h1 h2 h
    exact ⟨q, hq, hq3, (hg0 q r').mpr hg, hp⟩
/-! a stamp is drawn -/
theorem pl_stamp (H : pl_R nc nr nl nt ck bg S P M ph xs xp xq xg xv xf xl xc xh xw xz ym yf ys yp yq yl yg yv) {c t : Nat} (hc : c < 8) (hm : M c = t + 1) (hp : ph c = 2) :
    pl_R nc nr nl nt (ck + 1) bg S (pl_nu P t (ck + 1)) M (upd ph c 3) xs (upd xp c (nI (ck + 1))) xq xg xv xf xl xc xh xw xz ym yf ys (upd yp t (nI (ck + 1))) yq yl yg yv := by
  obtain ⟨hSZ, hTS, hTI, hTP, hTJ, hTN, hTR, hT3, hCI, hCA, hCJ, hCG, hCF, hDF, hDL, hDC, hDN, hHE, hHX, hVE, hVX⟩ := H
  have hb : bg ≤ 32 ∧ nr ≤ 8 ∧ ck ≤ 64 := by unfold pl_SZ at hSZ; omega
  have ht : t < bg := (hCA c t hc hm).1
  obtain ⟨hf, hP⟩ := pl_ok2 (pl_cf hCF hc hm) hp
  have hne : ∀ q, yf q = 3 → q ≠ t := by
    intro q h e
    rw [e] at h
    rcases hf with z | z
    · rw [z] at h; exact pl_23 h
    · rw [z] at h; exact pl_43 h
  refine ⟨?_, ?_, hTI, ?_, ?_, ?_, hTR, ?_, ?_, ?_, hCJ, hCG, ?_, hDF, hDL, ?_, hDN, hHE, hHX, ?_, ?_⟩
  · have z := pl_zc_lo (x := ck + 1) hP (by omega) bg ht
    unfold pl_SZ at hSZ ⊢
    omega
  · intro q hq
    obtain ⟨a, b, d⟩ := hTS q hq
    exact ⟨a, b, by omega⟩
  · intro q hq
    by_cases e : q = t
    · rw [e, pl_us, pl_ns]; exact ⟨rfl, Nat.le_refl _⟩
    · rw [pl_un e, pl_nn e]
      obtain ⟨a, b⟩ := hTP q hq
      exact ⟨a, by omega⟩
  · intro q q' hq hq' h
    by_cases e : q = t
    · by_cases e' : q' = t
      · exact Or.inr (by omega)
      · rw [e, pl_ns, pl_nn e'] at h
        have := (hTP q' hq').2
        omega
    · by_cases e' : q' = t
      · rw [e', pl_ns, pl_nn e] at h
        have := (hTP q hq).2
        omega
      · rw [pl_nn e, pl_nn e'] at h
        rw [pl_nn e]
        exact hTJ q q' hq hq' h
  · intro q h1 h2
    rw [pl_nn (by omega)]
    exact hTN q h1 h2
  · intro q hq h
    rw [pl_nn (hne q h)]
    exact hT3 q hq h
  · intro c' hc' h
    rw [pl_un (fun z => by rw [z] at h; omega)]
    exact hCI c' hc' h
  · intro c' q hc' h
    by_cases e : c' = c
    · subst e
      have e : q = t := by omega
      subst e
      obtain ⟨a, b, d, _, f⟩ := hCA c' q hc' h
      rw [pl_us, pl_ns, if_neg (by omega)]
      exact ⟨a, b, d, rfl, f⟩
    · have e2 : q ≠ t := fun z => e (hCJ c' c t hc' hc (by rw [← z]; exact h) hm)
      rw [pl_un e, pl_nn e2]
      exact hCA c' q hc' h
  · intro c' hc'
    by_cases e : c' = c
    · rw [e]
      exact Or.inr ⟨t, hm, Or.inr (Or.inr (Or.inl ⟨pl_us, hf, by rw [pl_ns]; omega⟩))⟩
    · rcases hCF c' hc' with h | ⟨q, h1, h⟩
      · exact Or.inl (by rw [pl_un e]; exact h)
      · have e2 : q ≠ t := fun z => e (hCJ c' c t hc' hc (by rw [← z]; exact h1) hm)
        refine Or.inr ⟨q, h1, ?_⟩
        unfold pl_ok at h ⊢
        rw [pl_un e, pl_nn e2]
        exact h
  · intro q hq h
    rw [pl_nn (hne q h)]
    exact hDC q hq h
  · intro r q hr hq h hg
    rw [pl_nn (hne q h)]
    exact hVE r q hr hq h hg
  · intro r p hr h1 h2 h
    obtain ⟨q, hq, hq3, hg, hp⟩ := hVX r p hr h1 h2 h
    exact ⟨q, hq, hq3, hg, by rw [pl_nn (hne q hq3)]; exact hp⟩
end PLC
end
section
section PLD
variable {nc nr nl nt ck bg : Nat} {S P M : Nat → Nat} {ph xs xp xq xg xv xf xl xc xh xw xz ym yf ys yp yq yl yg yv : Nat → Int32}
/-! the primary is committed -/
theorem pl_comm (H : pl_R nc nr nl nt ck bg S P M ph xs xp xq xg xv xf xl xc xh xw xz ym yf ys yp yq yl yg yv) {c t : Nat} (hc : c < 8) (hm : M c = t + 1) (hp : ph c = 3) (hf : yf t = 2) {xw' xz' : Nat → Int32}
    (hw : ∀ r p, r < 8 → p < 65 → xw' (r * 65 + p) = if r < nr ∧ p = P t ∧ xg (c * 8 + r) ≠ 0 then 1 else xw (r * 65 + p))
    (hz : ∀ r p, r < 8 → p < 65 → xz' (r * 65 + p) = if r < nr ∧ p = P t ∧ xg (c * 8 + r) ≠ 0 then xv (c * 8 + r) else xz (r * 65 + p)) :
    pl_R nc nr nl nt ck bg S P M (upd ph c 4) xs xp xq xg xv (upd xf (S t) 3) xl (upd xc (S t) (nI (P t))) (pl_eh nr (nI (S t)) xh) xw' xz' ym (upd yf t 3) ys yp yq yl yg yv := by
  obtain ⟨hSZ, hTS, hTI, hTP, hTJ, hTN, hTR, hT3, hCI, hCA, hCJ, hCG, hCF, hDF, hDL, hDC, hDN, hHE, hHX, hVE, hVX⟩ := H
  have hb : bg ≤ 32 ∧ nr ≤ 8 ∧ ck ≤ 64 := by unfold pl_SZ at hSZ; omega
  have ht : t < bg := (hCA c t hc hm).1
  have hP : P t ≠ 0 := (pl_ok3 (pl_cf hCF hc hm) hp).2
  have hS : ∀ q, q < bg → S q < 2 ^ 31 := fun q hq => by have := (hTS q hq).2.2; omega
  have hPl : ∀ q, q < bg → P q < 65 := fun q hq => by have := (hTP q (by omega)).2; omega
  have hn : ∀ q, q < bg → q ≠ t → nI (S q) ≠ nI (S t) := fun q hq e z => pl_Sj hTI hq ht e (pl_im z (hS q hq) (hS t ht))
  have h2 : ∀ q, upd yf t 3 q = 2 → q ≠ t ∧ yf q = 2 := by
    intro q h
    by_cases e : q = t
    · rw [e, pl_us] at h; exact absurd h pl_32
    · rw [pl_un e] at h; exact ⟨e, h⟩
  refine ⟨hSZ, hTS, hTI, hTP, hTJ, ?_, hTR, ?_, hCI, hCA, hCJ, hCG, ?_, ?_, ?_, ?_, ?_, ?_, ?_, ?_, ?_⟩
  · intro q h1 h2
    rw [pl_un (by omega)]
    exact hTN q h1 h2
  · intro q hq h
    by_cases e : q = t
    · rw [e]; exact hP
    · rw [pl_un e] at h; exact hT3 q hq h
  · intro c' hc'
    by_cases e : c' = c
    · rw [e]
      exact Or.inr ⟨t, hm, Or.inr (Or.inr (Or.inr ⟨pl_us, pl_us⟩))⟩
    · rcases hCF c' hc' with h | ⟨q, h1, h⟩
      · exact Or.inl (by rw [pl_un e]; exact h)
      · have e2 : q ≠ t := fun z => e (hCJ c' c t hc' hc (by rw [← z]; exact h1) hm)
        refine Or.inr ⟨q, h1, ?_⟩
        unfold pl_ok at h ⊢
        rw [pl_un e, pl_un e2]
        exact h
  · intro q hq
    by_cases e : q = t
    · rw [e, pl_us, pl_us]
    · rw [pl_un e, pl_un (pl_Sj hTI hq ht e)]; exact hDF q hq
  · intro q hq h
    exact hDL q hq (h2 q h).2
  · intro q hq h
    by_cases e : q = t
    · rw [e, pl_us]
    · rw [pl_un e] at h
      rw [pl_un (pl_Sj hTI hq ht e)]; exact hDC q hq h
  · intro s h1 h2 h
    rw [pl_un (fun e => h t ht e.symm)]
    exact hDN s h1 h2 h
  · intro r q hr hq h hg
    obtain ⟨e, h⟩ := h2 q h
    have z := hHE r q hr hq h hg
    rw [pl_eh_o (by rw [z]; exact hn q hq e)]
    exact z
  · intro r hr
    by_cases z : xh r = nI (S t)
    · exact Or.inl (pl_eh_i hr z)
    · rw [pl_eh_o z]
      rcases hHX r hr with h | ⟨q, hq, h1, h2, h3⟩
      · exact Or.inl h
      · have e : q ≠ t := fun e => z (by rw [h3, e])
        exact Or.inr ⟨q, hq, by rw [pl_un e]; exact h1, h2, h3⟩
  · intro r q hr hq h hg
    rw [hw r (P q) hr (hPl q hq), hz r (P q) hr (hPl q hq)]
    by_cases e : q = t
    · subst e
      have g := hCG c q r hc hm hr
      have hn8 : r < nr := by
        by_cases l : r < nr
        · exact l
        · exact absurd (hTR q r (by omega) (by omega) hr) hg
      have cd : r < nr ∧ P q = P q ∧ xg (c * 8 + r) ≠ 0 := ⟨hn8, rfl, by rw [g.1]; exact hg⟩
      rw [if_pos cd, if_pos cd]
      exact ⟨rfl, g.2 hg⟩
    · rw [pl_un e] at h
      have p0 := hT3 q (by omega) h
      have ne : P q ≠ P t := fun z => by
        rcases hTJ q t (by omega) (by omega) z with a | a
        · exact p0 a
        · exact e a
      have cd : ¬ (r < nr ∧ P q = P t ∧ xg (c * 8 + r) ≠ 0) := fun z => ne z.2.1
      rw [if_neg cd, if_neg cd]
      exact hVE r q hr hq h hg
  · intro r p hr h1 h2 h
    rw [hw r p hr (by omega)] at h
    by_cases cd : r < nr ∧ p = P t ∧ xg (c * 8 + r) ≠ 0
    · exact ⟨t, ht, pl_us, by rw [← (hCG c t r hc hm hr).1]; exact cd.2.2, cd.2.1.symm⟩
    · rw [if_neg cd] at h
      obtain ⟨q, hq, hq3, hg, hpq⟩ := hVX r p hr h1 h2 h
      have e : q ≠ t := fun e => by rw [e, hf] at hq3; exact pl_23 hq3
      exact ⟨q, hq, by rw [pl_un e]; exact hq3, hg, hpq⟩
/-! leases -/
theorem pl_beat (H : pl_R nc nr nl nt ck bg S P M ph xs xp xq xg xv xf xl xc xh xw xz ym yf ys yp yq yl yg yv) {t : Nat} (ht : t < bg) :
    pl_R nc nr nl nt ck bg S P M ph xs xp xq xg xv xf (upd xl (S t) (nI nl)) xc xh xw xz ym yf ys yp yq (upd yl t (nI nl)) yg yv := by
  obtain ⟨hSZ, hTS, hTI, hTP, hTJ, hTN, hTR, hT3, hCI, hCA, hCJ, hCG, hCF, hDF, hDL, hDC, hDN, hHE, hHX, hVE, hVX⟩ := H
  refine ⟨hSZ, hTS, hTI, hTP, hTJ, hTN, hTR, hT3, hCI, hCA, hCJ, hCG, hCF, hDF, ?_, hDC, hDN, hHE, hHX, hVE, hVX⟩
  intro q hq h
  by_cases e : q = t
  · rw [e, pl_us, pl_us]
  · rw [pl_un e, pl_un (pl_Sj hTI hq ht e)]; exact hDL q hq h
def pl_lz (n x : Int32) : Int32 := if x ≤ n then 0 else x - n
def pl_xt (n : Int32) (xf xl : Nat → Int32) (i : Nat) : Nat → Int32 := fun s => if 1 ≤ s ∧ s < i ∧ xf s = 2 then pl_lz n (xl s) else xl s
def pl_yt (n : Int32) (yf yl : Nat → Int32) (i : Nat) : Nat → Int32 := fun t => if t < i ∧ yf t = 2 then pl_lz n (yl t) else yl t
theorem pl_tick (H : pl_R nc nr nl nt ck bg S P M ph xs xp xq xg xv xf xl xc xh xw xz ym yf ys yp yq yl yg yv) (n : Int32) :
    pl_R nc nr nl nt ck bg S P M ph xs xp xq xg xv xf (pl_xt n xf xl 65) xc xh xw xz ym yf ys yp yq (pl_yt n yf yl 32) yg yv := by
  obtain ⟨hSZ, hTS, hTI, hTP, hTJ, hTN, hTR, hT3, hCI, hCA, hCJ, hCG, hCF, hDF, hDL, hDC, hDN, hHE, hHX, hVE, hVX⟩ := H
  have hb : bg ≤ 32 ∧ nr ≤ 8 ∧ ck ≤ 64 := by unfold pl_SZ at hSZ; omega
  refine ⟨hSZ, hTS, hTI, hTP, hTJ, hTN, hTR, hT3, hCI, hCA, hCJ, hCG, hCF, hDF, ?_, hDC, hDN, hHE, hHX, hVE, hVX⟩
  intro q hq h
  have l := hTS q hq
  have e1 : pl_xt n xf xl 65 (S q) = pl_lz n (xl (S q)) := if_pos ⟨l.2.1, by omega, by rw [hDF q hq]; exact h⟩
  have e2 : pl_yt n yf yl 32 q = pl_lz n (yl q) := if_pos ⟨by omega, h⟩
  rw [e1, e2, hDL q hq h]
theorem pl_xt_s {n : Int32} {xf xl : Nat → Int32} {i : Nat} (hi : 1 ≤ i) : pl_xt n xf xl (i + 1) = if xf i = 2 then upd (pl_xt n xf xl i) i (pl_lz n (xl i)) else pl_xt n xf xl i := by
  funext s
  by_cases h : xf i = 2
  · rw [if_pos h]
    by_cases e : s = i
    · rw [e, pl_us]
      exact if_pos ⟨hi, by omega, h⟩
    · rw [pl_un e]
      unfold pl_xt
      by_cases z : 1 ≤ s ∧ s < i ∧ xf s = 2
      · have z' : 1 ≤ s ∧ s < i + 1 ∧ xf s = 2 := ⟨z.1, by omega, z.2.2⟩
        rw [if_pos z, if_pos z']
      · have z' : ¬ (1 ≤ s ∧ s < i + 1 ∧ xf s = 2) := fun y => z ⟨y.1, by omega, y.2.2⟩
        rw [if_neg z, if_neg z']
  · rw [if_neg h]
    unfold pl_xt
    by_cases e : s = i
    · have z : ¬ (1 ≤ s ∧ s < i ∧ xf s = 2) := fun y => by omega
      have z' : ¬ (1 ≤ s ∧ s < i + 1 ∧ xf s = 2) := fun y => by
        have w := y.2.2
        rw [e] at w
        exact h w
      rw [if_neg z, if_neg z']
    · by_cases z : 1 ≤ s ∧ s < i ∧ xf s = 2
      · have z' : 1 ≤ s ∧ s < i + 1 ∧ xf s = 2 := ⟨z.1, by omega, z.2.2⟩
        rw [if_pos z, if_pos z']
      · have z' : ¬ (1 ≤ s ∧ s < i + 1 ∧ xf s = 2) := fun y => z ⟨y.1, by omega, y.2.2⟩
        rw [if_neg z, if_neg z']
theorem pl_xt_i {n : Int32} {xf xl : Nat → Int32} {i : Nat} : pl_xt n xf xl i i = xl i := if_neg fun z => Nat.lt_irrefl i z.2.1
theorem pl_xt_1 {n : Int32} {xf xl : Nat → Int32} : pl_xt n xf xl 1 = xl := by
  funext s
  exact if_neg fun z => by omega
theorem pl_yt_s {n : Int32} {yf yl : Nat → Int32} {i : Nat} : pl_yt n yf yl (i + 1) = if yf i = 2 then upd (pl_yt n yf yl i) i (pl_lz n (yl i)) else pl_yt n yf yl i := by
  funext s
  by_cases h : yf i = 2
  · rw [if_pos h]
    by_cases e : s = i
    · rw [e, pl_us]
      exact if_pos ⟨by omega, h⟩
    · rw [pl_un e]
      unfold pl_yt
      by_cases z : s < i ∧ yf s = 2
      · have z' : s < i + 1 ∧ yf s = 2 := ⟨by omega, z.2⟩
        rw [if_pos z, if_pos z']
      · have z' : ¬ (s < i + 1 ∧ yf s = 2) := fun y => z ⟨by omega, y.2⟩
        rw [if_neg z, if_neg z']
  · rw [if_neg h]
    unfold pl_yt
    by_cases e : s = i
    · have z : ¬ (s < i ∧ yf s = 2) := fun y => by omega
      have z' : ¬ (s < i + 1 ∧ yf s = 2) := fun y => by
        have w := y.2
        rw [e] at w
        exact h w
      rw [if_neg z, if_neg z']
    · by_cases z : s < i ∧ yf s = 2
      · have z' : s < i + 1 ∧ yf s = 2 := ⟨by omega, z.2⟩
        rw [if_pos z, if_pos z']
      · have z' : ¬ (s < i + 1 ∧ yf s = 2) := fun y => z ⟨by omega, y.2⟩
        rw [if_neg z, if_neg z']
theorem pl_yt_i {n : Int32} {yf yl : Nat → Int32} {i : Nat} : pl_yt n yf yl i i = yl i := if_neg fun z => Nat.lt_irrefl i z.1
theorem pl_yt_0 {n : Int32} {yf yl : Nat → Int32} : pl_yt n yf yl 0 = yl := by
  funext s
  exact if_neg fun z => by omega
/-! the start -/
theorem pl_start {nc nr nl nt : Nat} (h1 : 1 ≤ nc ∧ nc ≤ 8) (h2 : 2 ≤ nr ∧ nr ≤ 8) (h3 : 1 ≤ nl ∧ nl ≤ 100) (h4 : 8 ≤ nt ∧ nt ≤ 32) {ph xs xp xq xg xh : Nat → Int32}
    (e0 : ∀ c, c < 8 → ph c = 0) (e1 : ∀ c, c < 8 → xs c = -1) (e2 : ∀ c, c < 8 → xp c = -1) (e3 : ∀ c, c < 8 → xq c = -1) (e4 : ∀ j, j < 64 → xg j = 0) (e5 : ∀ r, r < 8 → xh r = -1) (xv xl xc xz ym ys yq yl yv : Nat → Int32) :
    pl_R nc nr nl nt 0 0 (fun _ => 0) (fun _ => 0) (fun _ => 0) ph xs xp xq xg xv (fun _ => 0) xl xc xh (fun _ => 0) xz ym (fun _ => 0) ys (fun _ => 0) yq yl (fun _ => 0) yv := by
  refine ⟨?_, ?_, ?_, ?_, ?_, ?_, ?_, ?_, ?_, ?_, ?_, ?_, ?_, ?_, ?_, ?_, ?_, ?_, ?_, ?_, ?_⟩
  · have z : pl_zc (fun _ => 0) 0 = 0 := rfl
    unfold pl_SZ
    omega
  · intro t h; omega
  · intro t t' h h'; omega
  · intro t h; exact ⟨nI_0.symm, Nat.le_refl _⟩
  · intro t t' h h' e; exact Or.inl rfl
  · intro t h h'; exact ⟨rfl, rfl, fun _ _ => rfl⟩
  · intro t r h h' h''; rfl
  · intro t h e
    have e' : (0 : Int32) = 3 := e
    exact absurd e' (by decide)
  · intro c h e; exact ⟨e1 c h, e2 c h, e3 c h, fun r hr => e4 _ (by omega)⟩
  · intro c t h e
    have e' : 0 = t + 1 := e
    omega
  · intro c c' t h h' e
    have e' : 0 = t + 1 := e
    omega
  · intro c t r h e
    have e' : 0 = t + 1 := e
    omega
  · intro c h; exact Or.inl ⟨rfl, e0 c h⟩
  · intro t h; omega
  · intro t h; omega
  · intro t h; omega
  · intro s h1 h2 h; rfl
  · intro r t h h'; omega
  · intro r h; exact Or.inl (e5 r (by omega))
  · intro r t h h'; omega
  · intro r p h h1 h2 e; exact absurd rfl e
end PLD
end
section
section PLE
variable {nc nr nl nt ck bg : Nat} {S P M : Nat → Nat} {ph xs xp xq xg xv xf xl xc xh xw xz ym yf ys yp yq yl yg yv : Nat → Int32}
/-! what the relation says where the two sides look a thing up -/
theorem pl_b (H : pl_R nc nr nl nt ck bg S P M ph xs xp xq xg xv xf xl xc xh xw xz ym yf ys yp yq yl yg yv) :
    1 ≤ nc ∧ nc ≤ 8 ∧ 2 ≤ nr ∧ nr ≤ 8 ∧ 1 ≤ nl ∧ nl ≤ 100 ∧ 8 ≤ nt ∧ nt ≤ 32 ∧ bg ≤ nt ∧ ck ≤ 2 * bg := by
  have h := H.1
  unfold pl_SZ at h
  omega
/-- a client: idle, or with a transaction -/
theorem pl_cl (H : pl_R nc nr nl nt ck bg S P M ph xs xp xq xg xv xf xl xc xh xw xz ym yf ys yp yq yl yg yv) {c : Nat} (hc : c < 8) :
    (M c = 0 ∧ ph c = 0 ∧ xs c = -1 ∧ xp c = -1 ∧ xq c = -1 ∧ ∀ r, r < 8 → xg (c * 8 + r) = 0) ∨
    ∃ t, M c = t + 1 ∧ t < bg ∧ ¬ ph c = 0 ∧ ym c = nI t ∧ xs c = nI (S t) ∧ ys t = nI (S t) ∧ 1 ≤ S t ∧ S t ≤ 64 ∧ xf (S t) = yf t ∧ pl_ok ph yf yg P c t ∧ xq c = yq t ∧ (yq t = -1 ∨ ¬ yq t < 0) ∧
      (∀ r, r < 8 → xg (c * 8 + r) = yg (t * 8 + r) ∧ (yg (t * 8 + r) ≠ 0 → xv (c * 8 + r) = yv (t * 8 + r))) ∧ xp c = (if P t = 0 then -1 else nI (P t)) ∧ yp t = nI (P t) ∧ P t ≤ 64 := by
  have hb := pl_b H
  obtain ⟨hSZ, hTS, hTI, hTP, hTJ, hTN, hTR, hT3, hCI, hCA, hCJ, hCG, hCF, hDF, hDL, hDC, hDN, hHE, hHX, hVE, hVX⟩ := H
  rcases hCF c hc with h | ⟨t, h1, h⟩
  · obtain ⟨a, b, d, e⟩ := hCI c hc h.1
    exact Or.inl ⟨h.1, h.2, a, b, d, e⟩
  · obtain ⟨a, b, d, e, f, g⟩ := hCA c t hc h1
    obtain ⟨s1, s2, s3⟩ := hTS t a
    obtain ⟨p1, p2⟩ := hTP t (by omega)
    refine Or.inr ⟨t, h1, a, ?_, b, d, s1, s2, by omega, hDF t a, h, f, g, fun r hr => hCG c t r hc h1 hr, e, p1, by omega⟩
    intro z
    unfold pl_ok at h
    rw [z] at h
    rcases h with h | h | h | h
    · exact absurd h.1 (by decide)
    · exact absurd h.1 (by decide)
    · exact absurd h.1 (by decide)
    · exact absurd h.1 (by decide)
/-- the newest version of a row up to a time -/
theorem pl_new (H : pl_R nc nr nl nt ck bg S P M ph xs xp xq xg xv xf xl xc xh xw xz ym yf ys yp yq yl yg yv) {r : Nat} (hr : r < 8) (A : Nat → Prop) :
    (∃ t, t < bg ∧ yf t = 3 ∧ yg (t * 8 + r) ≠ 0 ∧ A (P t) ∧ 1 ≤ P t ∧ P t ≤ 64 ∧ yp t = nI (P t) ∧ xw (r * 65 + P t) ≠ 0 ∧ xz (r * 65 + P t) = yv (t * 8 + r) ∧
      (∀ q, P t < q → q ≤ 64 → A q → xw (r * 65 + q) = 0) ∧ (∀ t', t' < 32 → yf t' = 3 → yg (t' * 8 + r) ≠ 0 → A (P t') → t' ≠ t → P t' < P t)) ∨
    ((∀ q, 1 ≤ q → q ≤ 64 → A q → xw (r * 65 + q) = 0) ∧ (∀ t', t' < 32 → yf t' = 3 → yg (t' * 8 + r) ≠ 0 → ¬ A (P t'))) := by
  have hb := pl_b H
  obtain ⟨hSZ, hTS, hTI, hTP, hTJ, hTN, hTR, hT3, hCI, hCA, hCJ, hCG, hCF, hDF, hDL, hDC, hDN, hHE, hHX, hVE, hVX⟩ := H
  have h1 : ∀ t', t' < 32 → yf t' = 3 → yg (t' * 8 + r) ≠ 0 → t' < bg ∧ 1 ≤ P t' ∧ P t' ≤ 64 ∧ xw (r * 65 + P t') = 1 ∧ xz (r * 65 + P t') = yv (t' * 8 + r) := by
    intro t' l h g
    have lt : t' < bg := by
      by_cases z : t' < bg
      · exact z
      · have := (hTN t' (by omega) l).1
        rw [h] at this
        exact absurd this (by decide)
    have a := hT3 t' l h
    have b := (hTP t' l).2
    have d := hVE r t' hr lt h g
    exact ⟨lt, by omega, by omega, d.1, d.2⟩
  have n10 : ¬ (1 : Int32) = 0 := by decide
  rcases pl_great (fun p => A p ∧ xw (r * 65 + p) ≠ 0) 64 with ⟨p, l1, l2, ⟨hA, hw⟩, hm⟩ | hm
  · obtain ⟨t, ht, hf, hg, hP⟩ := hVX r p hr l1 l2 hw
    subst hP
    obtain ⟨_, _, _, e1, e2⟩ := h1 t (by omega) hf hg
    refine Or.inl ⟨t, ht, hf, hg, hA, l1, l2, (hTP t (by omega)).1, hw, e2, ?_, ?_⟩
    · intro q lq lq' hq
      by_cases z : xw (r * 65 + q) = 0
      · exact z
      · exact absurd ⟨hq, z⟩ (hm q lq lq')
    · intro t' lt' hf' hg' hA' ne
      obtain ⟨b1, b2, b3, b4, _⟩ := h1 t' lt' hf' hg'
      rcases Nat.lt_trichotomy (P t') (P t) with z | z | z
      · exact z
      · rcases hTJ t' t lt' (by omega) z with y | y
        · omega
        · exact absurd y ne
      · exact absurd ⟨hA', by rw [b4]; exact n10⟩ (hm (P t') z b3)
  · refine Or.inr ⟨?_, ?_⟩
    · intro q lq lq' hq
      by_cases z : xw (r * 65 + q) = 0
      · exact z
      · exact absurd ⟨hq, z⟩ (hm q lq lq')
    · intro t' lt' hf' hg' hA'
      obtain ⟨b1, b2, b3, b4, _⟩ := h1 t' lt' hf' hg'
      exact hm (P t') b2 b3 ⟨hA', by rw [b4]; exact n10⟩
/-- who holds a row -/
theorem pl_hd (H : pl_R nc nr nl nt ck bg S P M ph xs xp xq xg xv xf xl xc xh xw xz ym yf ys yp yq yl yg yv) {r : Nat} (hr : r < nr) :
    (xh r = -1 ∧ ∀ t, t < 32 → yf t = 2 → ¬ yg (t * 8 + r) = 2) ∨
    ∃ t, t < bg ∧ yf t = 2 ∧ yg (t * 8 + r) = 2 ∧ xh r = nI (S t) ∧ ys t = nI (S t) ∧ 1 ≤ S t ∧ S t ≤ 64 ∧ xl (S t) = yl t ∧ (∀ t', t' < 32 → yf t' = 2 → yg (t' * 8 + r) = 2 → t' = t) := by
  have hb := pl_b H
  obtain ⟨hSZ, hTS, hTI, hTP, hTJ, hTN, hTR, hT3, hCI, hCA, hCJ, hCG, hCF, hDF, hDL, hDC, hDN, hHE, hHX, hVE, hVX⟩ := H
  have hlt : ∀ t', t' < 32 → yf t' = 2 → t' < bg := by
    intro t' l h
    by_cases z : t' < bg
    · exact z
    · have := (hTN t' (by omega) l).1
      rw [h] at this
      exact absurd this (by decide)
  have hS : ∀ q, q < bg → S q < 2 ^ 31 := fun q hq => by have := (hTS q hq).2.2; omega
  rcases hHX r hr with h | ⟨t, ht, h1, h2, h3⟩
  · refine Or.inl ⟨h, fun t l f g => ?_⟩
    have lt := hlt t l f
    have z := hHE r t hr lt f g
    rw [h] at z
    exact pl_ne1 (hS t lt) z.symm
  · obtain ⟨s1, s2, s3⟩ := hTS t ht
    refine Or.inr ⟨t, ht, h1, h2, h3, s1, s2, by omega, hDL t ht h1, fun t' l f g => ?_⟩
    have lt := hlt t' l f
    have z := hHE r t' hr lt f g
    rw [h3] at z
    by_cases e : t' = t
    · exact e
    · exact absurd (pl_im z (hS t ht) (hS t' lt)).symm (pl_Sj hTI lt ht e)
/-- a start timestamp -/
theorem pl_fd (H : pl_R nc nr nl nt ck bg S P M ph xs xp xq xg xv xf xl xc xh xw xz ym yf ys yp yq yl yg yv) (s : Int32) :
    (∃ t, t < bg ∧ s = nI (S t) ∧ 1 ≤ S t ∧ S t ≤ 64 ∧ xf (S t) = yf t ∧ (yf t = 2 → xl (S t) = yl t) ∧ (yf t = 3 → xc (S t) = yp t) ∧ ys t = s ∧ (∀ t', t' < 32 → ¬ yf t' = 0 → ys t' = s → t' = t)) ∨
    ((∀ j, 1 ≤ j → j ≤ 64 → s = nI j → xf j = 0) ∧ (∀ t', t' < 32 → ¬ yf t' = 0 → ¬ ys t' = s)) := by
  have hb := pl_b H
  obtain ⟨hSZ, hTS, hTI, hTP, hTJ, hTN, hTR, hT3, hCI, hCA, hCJ, hCG, hCF, hDF, hDL, hDC, hDN, hHE, hHX, hVE, hVX⟩ := H
  have hlt : ∀ t', t' < 32 → ¬ yf t' = 0 → t' < bg := by
    intro t' l h
    by_cases z : t' < bg
    · exact z
    · exact absurd (hTN t' (by omega) l).1 h
  have hS : ∀ q, q < bg → S q < 2 ^ 31 := fun q hq => by have := (hTS q hq).2.2; omega
  by_cases h : ∃ t, t < bg ∧ s = nI (S t)
  · obtain ⟨t, ht, hs⟩ := h
    obtain ⟨s1, s2, s3⟩ := hTS t ht
    refine Or.inl ⟨t, ht, hs, s2, by omega, hDF t ht, hDL t ht, fun f => ?_, by rw [hs]; exact s1, fun t' l f e => ?_⟩
    · rw [hDC t ht f]; exact (hTP t (by omega)).1.symm
    · have lt := hlt t' l f
      rw [(hTS t' lt).1, hs] at e
      by_cases z : t' = t
      · exact z
      · exact absurd (pl_im e (hS t' lt) (hS t ht)) (pl_Sj hTI lt ht z)
  · refine Or.inr ⟨fun j l1 l2 e => ?_, fun t' l f e => ?_⟩
    · exact hDN j l1 l2 fun t ht z => h ⟨t, ht, by rw [z]; exact e⟩
    · have lt := hlt t' l f
      exact h ⟨t', lt, by rw [← e]; exact (hTS t' lt).1⟩
end PLE
end
section
section PLF
variable {nc nr nl nt ck bg : Nat} {S P M : Nat → Nat} {ph xs xp xq xg xv xf xl xc xh xw xz ym yf ys yp yq yl yg yv : Nat → Int32}
theorem pl_mul (a b : Nat) : nI a * nI b = nI (a * b) := (Int32.ofNat_mul a b).symm
theorem pl_cc (c r : Nat) : nI c * 8 + nI r = nI (c * 8 + r) := by
  have h : nI c * 8 = nI (c * 8) := pl_mul c 8
  rw [h, nI_add]
theorem pl_vc (c r : Nat) : nI c * 65 + nI r = nI (c * 65 + r) := by
  have h : nI c * 65 = nI (c * 65) := pl_mul c 65
  rw [h, nI_add]
theorem pl_le8 {a : Nat} (h : a < 2 ^ 31) : (8 : Int32) ≤ nI a ↔ 8 ≤ a := nI_leI (a := 8) (by decide) h
theorem pl_le32 {a : Nat} (h : a < 2 ^ 31) : (32 : Int32) ≤ nI a ↔ 32 ≤ a := nI_leI (a := 32) (by decide) h
theorem pl_lt64 {a : Nat} (h : a < 2 ^ 31) : (64 : Int32) < nI a ↔ 64 < a := nI_ltI (a := 64) (by decide) h
theorem pl_lt1 {a : Nat} (h : a < 2 ^ 31) : nI a < (1 : Int32) ↔ a < 1 := nI_ltI (b := 1) h (by decide)
theorem pl_lt8 {a : Nat} (h : a < 2 ^ 31) : nI a < (8 : Int32) ↔ a < 8 := nI_ltI (b := 8) h (by decide)
theorem pl_lt32 {a : Nat} (h : a < 2 ^ 31) : nI a < (32 : Int32) ↔ a < 32 := nI_ltI (b := 32) h (by decide)
theorem pl_10 : ¬ (1 : Int32) = 0 := by decide
theorem pl_nq : (¬ (1 : Int32) = 0) ∧ (¬ (2 : Int32) = 0) ∧ (¬ (3 : Int32) = 0) ∧ (¬ (4 : Int32) = 0) ∧ (¬ (0 : Int32) = 1) ∧ (¬ (2 : Int32) = 1) ∧ (¬ (3 : Int32) = 1) ∧ (¬ (4 : Int32) = 1) ∧ (¬ (0 : Int32) = 2) ∧ (¬ (1 : Int32) = 2) ∧ (¬ (3 : Int32) = 2) ∧ (¬ (4 : Int32) = 2) ∧ (¬ (0 : Int32) = 3) ∧ (¬ (1 : Int32) = 3) ∧ (¬ (2 : Int32) = 3) ∧ (¬ (4 : Int32) = 3) ∧ (¬ (0 : Int32) = 4) ∧ (¬ (1 : Int32) = 4) ∧ (¬ (2 : Int32) = 4) ∧ (¬ (3 : Int32) = 4) ∧ (¬ (-4 : Int32) = 0) ∧ (¬ (-8 : Int32) = 0) ∧ (¬ (-11 : Int32) = 0) := by decide
theorem pl_m1 : ((-1 : Int32) < 0) ∧ (¬ (0 : Int32) ≤ -1) ∧ ((-1 : Int32) = -1) := by decide
theorem pl_ix (x : Int32) {n : Nat} (hn : n < 2 ^ 31) : x < 0 ∨ (¬ x < 0 ∧ nI n ≤ x ∧ ¬ x < nI n) ∨ ∃ j : Nat, j < n ∧ x = nI j := by
  by_cases h : x < 0
  · exact Or.inl h
  · obtain ⟨j, hj, rfl⟩ := nI_of h
    by_cases l : j < n
    · exact Or.inr (Or.inr ⟨j, l, rfl⟩)
    · exact Or.inr (Or.inl ⟨h, nI_le (by omega) hj, nI_nlt (by omega) hj⟩)
/-! X's own methods that loop -/
def pl_zi (c i : Nat) (f : Nat → Int32) : Nat → Int32 := fun j => if c * 8 ≤ j ∧ j < c * 8 + i then 0 else f j
theorem pl_zi_0 {c : Nat} {f : Nat → Int32} : pl_zi c 0 f = f := by
  funext j
  exact if_neg (by omega)
theorem pl_zi_s {c i : Nat} {f : Nat → Int32} : upd (pl_zi c i f) (c * 8 + i) 0 = pl_zi c (i + 1) f := by
  funext j
  unfold pl_zi
  by_cases e : j = c * 8 + i
  · have z : c * 8 ≤ j ∧ j < c * 8 + (i + 1) := by omega
    rw [e, pl_us, if_pos (by omega)]
  · rw [pl_un e]
    by_cases h : c * 8 ≤ j ∧ j < c * 8 + i
    · have z : c * 8 ≤ j ∧ j < c * 8 + (i + 1) := by omega
      rw [if_pos h, if_pos z]
    · have z : ¬ (c * 8 ≤ j ∧ j < c * 8 + (i + 1)) := by omega
      rw [if_neg h, if_neg z]
section XI
variable {f0 f1 f2 f3 f4 f5 : Int32}
theorem px_idl {post : St2 → Prop} {c : Nat} (hc : c < 8) (hp : post (f0, f1, f2, f3, f4, f5, ph, xs, xp, xq, pl_zr c xg, xv, xf, xl, xc, xh, xw, xz)) : ∀ d i, i + d = 8 → wX_becomeIdle_30 post (nI c) f0 f1 f2 f3 f4 f5 (d + 1) (nI i) ph xs xp xq (pl_zi c i xg) xv xf xl xc xh xw xz := by
  intro d
  induction d with
  | zero =>
    intro i hi
    have e : i = 8 := by omega
    subst e
    exact br_t (nI_le (Nat.le_refl 8) (by decide)) hp
  | succ d ih =>
    intro i hi
    have h8 : ¬ 8 ≤ i := by omega
    have k := ih (i + 1) (by omega)
    rw [← pl_zi_s] at k
    rw [wX_becomeIdle_30]
    simp (disch := omega) only [wpX_clientCell, h8, pl_cc, pl_vc, pl_le8, pl_le32, pl_lt64, pl_lt1, pl_lt8, pl_lt32, nI_pos, nI_pos', vp_in_nI, nI_clamp, nI_1, nI_leI, nI_ltI, nI_eq, forall_eq, true_implies, forall_const, not_true_eq_false, not_false_eq_true, false_implies, and_true, true_and, implies_true, and_self, eq_self]
    exact k
theorem px_idle {post : St2 → Prop} {c : Nat} (hc : c < 8) (hp : post (f0, f1, f2, f3, f4, f5, upd ph c 0, upd xs c (-1), upd xp c (-1), upd xq c (-1), pl_zr c xg, xv, xf, xl, xc, xh, xw, xz)) : wpX_becomeIdle post (f0, f1, f2, f3, f4, f5, ph, xs, xp, xq, xg, xv, xf, xl, xc, xh, xw, xz) (nI c) := by
  have k := px_idl (f0 := f0) (f1 := f1) (f2 := f2) (f3 := f3) (f4 := f4) (f5 := f5) hc hp 8 0 rfl
  rw [pl_zi_0, nI_0] at k
  simp (disch := omega) only [wpX_becomeIdle, pl_cc, pl_vc, pl_le8, pl_le32, pl_lt64, pl_lt1, pl_lt8, pl_lt32, nI_pos, nI_pos', vp_in_nI, nI_clamp, nI_1, nI_leI, nI_ltI, nI_eq, forall_eq, true_implies, forall_const, not_true_eq_false, not_false_eq_true, false_implies, and_true, true_and, implies_true, and_self, eq_self]
  exact ⟨9, k⟩
end XI
theorem pl_eh_0 {x : Int32} {f : Nat → Int32} : pl_eh 0 x f = f := by
  funext j
  exact if_neg (by omega)
theorem pl_eh_at {i : Nat} {x : Int32} {f : Nat → Int32} : pl_eh i x f i = f i := if_neg (by omega)
theorem pl_eh_t {i : Nat} {x : Int32} {f : Nat → Int32} (h : f i = x) : upd (pl_eh i x f) i (-1) = pl_eh (i + 1) x f := by
  funext j
  by_cases e : j = i
  · rw [e, pl_us]
    exact (if_pos ⟨by omega, h⟩).symm
  · rw [pl_un e]
    unfold pl_eh
    by_cases z : j < i ∧ f j = x
    · have z' : j < i + 1 ∧ f j = x := ⟨by omega, z.2⟩
      rw [if_pos z, if_pos z']
    · have z' : ¬ (j < i + 1 ∧ f j = x) := fun y => z ⟨by omega, y.2⟩
      rw [if_neg z, if_neg z']
theorem pl_eh_f {i : Nat} {x : Int32} {f : Nat → Int32} (h : ¬ f i = x) : pl_eh (i + 1) x f = pl_eh i x f := by
  funext j
  unfold pl_eh
  by_cases e : j = i
  · have z : ¬ (j < i ∧ f j = x) := by omega
    have z' : ¬ (j < i + 1 ∧ f j = x) := fun y => h (by rw [← e]; exact y.2)
    rw [if_neg z, if_neg z']
  · by_cases z : j < i ∧ f j = x
    · have z' : j < i + 1 ∧ f j = x := ⟨by omega, z.2⟩
      rw [if_pos z, if_pos z']
    · have z' : ¬ (j < i + 1 ∧ f j = x) := fun y => z ⟨by omega, y.2⟩
      rw [if_neg z, if_neg z']
theorem px_ehl {post : St2 → Prop} {x : Int32} (hn : nr ≤ 8) (hp : post (nI nc, nI nr, nI nl, nI nt, nI ck, nI bg, ph, xs, xp, xq, xg, xv, xf, xl, xc, pl_eh nr x xh, xw, xz)) : ∀ d i, i + d = nr → wX_endHolds_2 post x (nI nc) (nI nr) (nI nl) (nI nt) (nI ck) (nI bg) (d + 1) (nI i) ph xs xp xq xg xv xf xl xc (pl_eh i x xh) xw xz := by
  intro d
  induction d with
  | zero =>
    intro i hi
    have e : i = nr := by omega
    subst e
    exact br_t (nI_le (Nat.le_refl i) (by omega)) hp
  | succ d ih =>
    intro i hi
    have h8 : ¬ nr ≤ i := by omega
    have k := ih (i + 1) (by omega)
    by_cases h : xh i = x
    · rw [← pl_eh_t h] at k
      rw [wX_endHolds_2]
      simp (disch := omega) only [h8, pl_eh_at, h, pl_cc, pl_vc, pl_le8, pl_le32, pl_lt64, pl_lt1, pl_lt8, pl_lt32, nI_pos, nI_pos', vp_in_nI, nI_clamp, nI_1, nI_leI, nI_ltI, nI_eq, forall_eq, true_implies, forall_const, not_true_eq_false, not_false_eq_true, false_implies, and_true, true_and, implies_true, and_self, eq_self]
      exact k
    · rw [pl_eh_f h] at k
      rw [wX_endHolds_2]
      simp (disch := omega) only [h8, pl_eh_at, h, pl_cc, pl_vc, pl_le8, pl_le32, pl_lt64, pl_lt1, pl_lt8, pl_lt32, nI_pos, nI_pos', vp_in_nI, nI_clamp, nI_1, nI_leI, nI_ltI, nI_eq, forall_eq, true_implies, forall_const, not_true_eq_false, not_false_eq_true, false_implies, and_true, true_and, implies_true, and_self, eq_self]
      exact k
theorem px_eh {post : St2 → Prop} {x : Int32} (hn : nr ≤ 8) (hp : post (nI nc, nI nr, nI nl, nI nt, nI ck, nI bg, ph, xs, xp, xq, xg, xv, xf, xl, xc, pl_eh nr x xh, xw, xz)) : wpX_endHolds post (nI nc, nI nr, nI nl, nI nt, nI ck, nI bg, ph, xs, xp, xq, xg, xv, xf, xl, xc, xh, xw, xz) x := by
  have k := px_ehl hn hp nr 0 (by omega)
  rw [pl_eh_0, nI_0] at k
  exact ⟨nr + 1, k⟩
theorem px_roll {post : St2 → Prop} {s : Nat} (hn : nr ≤ 8) (hs : s ≤ 64) (hp : post (nI nc, nI nr, nI nl, nI nt, nI ck, nI bg, ph, xs, xp, xq, xg, xv, upd xf s 4, xl, xc, pl_eh nr (nI s) xh, xw, xz)) : wpX_rollBack post (nI nc, nI nr, nI nl, nI nt, nI ck, nI bg, ph, xs, xp, xq, xg, xv, xf, xl, xc, xh, xw, xz) (nI s) := by
  simp (disch := omega) only [wpX_rollBack, pl_cc, pl_vc, pl_le8, pl_le32, pl_lt64, pl_lt1, pl_lt8, pl_lt32, nI_pos, nI_pos', vp_in_nI, nI_clamp, nI_1, nI_leI, nI_ltI, nI_eq, forall_eq, true_implies, forall_const, not_true_eq_false, not_false_eq_true, false_implies, and_true, true_and, implies_true, and_self, eq_self]
  exact px_eh hn hp
end PLF
end
section
section PLG
variable {nc nr nl nt ck bg : Nat} {S P M : Nat → Nat} {ph xs xp xq xg xv xf xl xc xh xw xz ym yf ys yp yq yl yg yv : Nat → Int32}
theorem pl_dec (n : Nat) : nI (n + 1) + (-1) = nI n := by
  rw [← nI_1, Int32.add_assoc, show (1 : Int32) + (-1) = 0 from rfl, Int32.add_zero]
theorem px_nvs {post : Int32 → Prop} {r p : Nat} (hr : r < 8) (h1 : 1 ≤ p) (hw : ¬ xw (r * 65 + p) = 0) (hp : post (nI p)) : ∀ d, p + d ≤ 64 → (∀ q, p < q → q ≤ p + d → xw (r * 65 + q) = 0) → wX_newestVersion_16 post (nI r) (nI nc) (nI nr) (nI nl) (nI nt) (nI ck) (nI bg) ph xs xp xq xg xv xf xl xc xh xw xz (d + 1) (nI (p + d)) := by
  intro d
  induction d with
  | zero =>
    intro hd hz
    have e : ¬ p + 0 < 1 := by omega
    rw [wX_newestVersion_16]
    simp (disch := omega) only [wpX_versionCell, e, Nat.add_zero, hw, pl_cc, pl_vc, pl_le8, pl_le32, pl_lt64, pl_lt1, pl_lt8, pl_lt32, nI_pos, nI_pos', vp_in_nI, nI_clamp, nI_1, nI_leI, nI_ltI, nI_eq, forall_eq, true_implies, forall_const, not_true_eq_false, not_false_eq_true, false_implies, and_true, true_and, implies_true, and_self, eq_self]
    have e' : ¬ p < 1 := by omega
    simp only [e', hp, not_false_eq_true, false_implies, true_implies, and_self]
  | succ d ih =>
    intro hd hz
    have e : ¬ p + (d + 1) < 1 := by omega
    have z := hz (p + (d + 1)) (by omega) (by omega)
    have k := ih (by omega) (fun q a b => hz q a (by omega))
    have y : nI (p + (d + 1)) + (-1) = nI (p + d) := pl_dec (p + d)
    rw [wX_newestVersion_16]
    simp (disch := omega) only [wpX_versionCell, e, z, y, pl_cc, pl_vc, pl_le8, pl_le32, pl_lt64, pl_lt1, pl_lt8, pl_lt32, nI_pos, nI_pos', vp_in_nI, nI_clamp, nI_1, nI_leI, nI_ltI, nI_eq, forall_eq, true_implies, forall_const, not_true_eq_false, not_false_eq_true, false_implies, and_true, true_and, implies_true, and_self, eq_self]
    exact k
theorem px_nvn {post : Int32 → Prop} {r : Nat} (hr : r < 8) (hp : post (-1)) : ∀ d, d ≤ 64 → (∀ q, 1 ≤ q → q ≤ d → xw (r * 65 + q) = 0) → wX_newestVersion_16 post (nI r) (nI nc) (nI nr) (nI nl) (nI nt) (nI ck) (nI bg) ph xs xp xq xg xv xf xl xc xh xw xz (d + 1) (nI d) := by
  intro d
  induction d with
  | zero =>
    intro hd hz
    exact br_t (nI_lt (by decide) (by decide)) hp
  | succ d ih =>
    intro hd hz
    have e : ¬ d + 1 < 1 := by omega
    have z := hz (d + 1) (by omega) (by omega)
    have k := ih (by omega) (fun q a b => hz q a (by omega))
    rw [wX_newestVersion_16]
    simp (disch := omega) only [wpX_versionCell, e, z, pl_dec, pl_cc, pl_vc, pl_le8, pl_le32, pl_lt64, pl_lt1, pl_lt8, pl_lt32, nI_pos, nI_pos', vp_in_nI, nI_clamp, nI_1, nI_leI, nI_ltI, nI_eq, forall_eq, true_implies, forall_const, not_true_eq_false, not_false_eq_true, false_implies, and_true, true_and, implies_true, and_self, eq_self]
    exact k
theorem px_new_s {post : Int32 → Prop} {r p : Nat} {ts : Int32} (hr : r < 8) (h1 : 1 ≤ p) (h2 : p ≤ 64) (hw : ¬ xw (r * 65 + p) = 0) (hA : nI p ≤ ts) (hz : ∀ q, p < q → q ≤ 64 → nI q ≤ ts → xw (r * 65 + q) = 0) (hp : post (nI p)) : wpX_newestVersion post (nI nc, nI nr, nI nl, nI nt, nI ck, nI bg, ph, xs, xp, xq, xg, xv, xf, xl, xc, xh, xw, xz) (nI r) ts := by
  by_cases h : ts ≤ 64
  · have h0 : ¬ ts < 0 := Int32.not_lt.mpr (Int32.le_trans (nI_pos' (by omega)) hA)
    obtain ⟨j, hj, rfl⟩ := nI_of2 (n := 64) (by decide) h0 h
    rw [nI_leI (by omega) (by omega)] at hA
    refine br_t h ⟨j - p + 1, ?_⟩
    have k := px_nvs (nc := nc) (nr := nr) (nl := nl) (nt := nt) (ck := ck) (bg := bg) (ph := ph) (xs := xs) (xp := xp) (xq := xq) (xg := xg) (xv := xv) (xf := xf) (xl := xl) (xc := xc) (xh := xh) (xz := xz) hr h1 hw hp (j - p) (by omega) (fun q a b => hz q a (by omega) (nI_le (by omega) (by omega)))
    rw [show p + (j - p) = j by omega] at k
    exact k
  · refine br_f h ⟨64 - p + 1, ?_⟩
    have h64 : (64 : Int32) ≤ ts := Int32.le_of_lt (Int32.not_le.mp h)
    have k := px_nvs (nc := nc) (nr := nr) (nl := nl) (nt := nt) (ck := ck) (bg := bg) (ph := ph) (xs := xs) (xp := xp) (xq := xq) (xg := xg) (xv := xv) (xf := xf) (xl := xl) (xc := xc) (xh := xh) (xz := xz) hr h1 hw hp (64 - p) (by omega) (fun q a b => hz q a (by omega) (Int32.le_trans (nI_le (b := 64) (by omega) (by decide)) h64))
    rw [show p + (64 - p) = 64 by omega] at k
    exact k
theorem px_new_n {post : Int32 → Prop} {r : Nat} {ts : Int32} (hr : r < 8) (hz : ∀ q, 1 ≤ q → q ≤ 64 → nI q ≤ ts → xw (r * 65 + q) = 0) (hp : post (-1)) : wpX_newestVersion post (nI nc, nI nr, nI nl, nI nt, nI ck, nI bg, ph, xs, xp, xq, xg, xv, xf, xl, xc, xh, xw, xz) (nI r) ts := by
  by_cases h : ts ≤ 64
  · refine br_t h ?_
    by_cases h0 : ts < 0
    · exact ⟨1, br_t (Int32.lt_trans h0 (by decide)) hp⟩
    · obtain ⟨j, hj, rfl⟩ := nI_of2 (n := 64) (by decide) h0 h
      exact ⟨j + 1, px_nvn hr hp j hj (fun q a b => hz q a (by omega) (nI_le b (by omega)))⟩
  · refine br_f h ⟨64 + 1, ?_⟩
    have h64 : (64 : Int32) ≤ ts := Int32.le_of_lt (Int32.not_le.mp h)
    exact px_nvn hr hp 64 (by omega) (fun q a b => hz q a b (Int32.le_trans (nI_le (b := 64) b (by decide)) h64))
theorem px_hpl {post : Int32 → Prop} {c : Nat} (hc : c < 8) (hn : nr ≤ 8) (ht : ∀ r, r < nr → xg (c * 8 + r) = 1 → post 1) (hf : (∀ r, r < nr → ¬ xg (c * 8 + r) = 1) → post 0) : ∀ d i, i + d = nr → (∀ r, r < i → ¬ xg (c * 8 + r) = 1) → wX_hasRowOnlyPut_2 post (nI c) (nI nc) (nI nr) (nI nl) (nI nt) (nI ck) (nI bg) ph xs xp xq xg xv xf xl xc xh xw xz (d + 1) (nI i) := by
  intro d
  induction d with
  | zero =>
    intro i hi hb
    have e : i = nr := by omega
    subst e
    exact br_t (nI_le (Nat.le_refl i) (by omega)) (hf hb)
  | succ d ih =>
    intro i hi hb
    have h8 : ¬ nr ≤ i := by omega
    by_cases z : xg (c * 8 + i) = 1
    · simp (disch := omega) only [wX_hasRowOnlyPut_2, wpX_clientCell, h8, z, pl_cc, pl_vc, pl_le8, pl_le32, pl_lt64, pl_lt1, pl_lt8, pl_lt32, nI_pos, nI_pos', vp_in_nI, nI_clamp, nI_1, nI_leI, nI_ltI, nI_eq, forall_eq, true_implies, forall_const, not_true_eq_false, not_false_eq_true, false_implies, and_true, true_and, implies_true, and_self, eq_self]
      exact ht i (by omega) z
    · have k := ih (i + 1) (by omega) (lt_s hb z)
      rw [wX_hasRowOnlyPut_2]
      simp (disch := omega) only [wpX_clientCell, h8, z, pl_cc, pl_vc, pl_le8, pl_le32, pl_lt64, pl_lt1, pl_lt8, pl_lt32, nI_pos, nI_pos', vp_in_nI, nI_clamp, nI_1, nI_leI, nI_ltI, nI_eq, forall_eq, true_implies, forall_const, not_true_eq_false, not_false_eq_true, false_implies, and_true, true_and, implies_true, and_self, eq_self]
      exact k
theorem px_hp {post : Int32 → Prop} {c : Nat} (hc : c < 8) (hn : nr ≤ 8) (ht : ∀ r, r < nr → xg (c * 8 + r) = 1 → post 1) (hf : (∀ r, r < nr → ¬ xg (c * 8 + r) = 1) → post 0) : wpX_hasRowOnlyPut post (nI nc, nI nr, nI nl, nI nt, nI ck, nI bg, ph, xs, xp, xq, xg, xv, xf, xl, xc, xh, xw, xz) (nI c) := by
  have k := px_hpl (nc := nc) (nl := nl) (nt := nt) (ck := ck) (bg := bg) (ph := ph) (xs := xs) (xp := xp) (xq := xq) (xv := xv) (xf := xf) (xl := xl) (xc := xc) (xh := xh) (xw := xw) (xz := xz) hc hn ht hf nr 0 (by omega) lt_0
  rw [nI_0] at k
  exact ⟨nr + 1, k⟩
theorem px_wcl {post : Int32 → Prop} {c : Nat} (hc : c < 8) (hn : nr ≤ 8) (ht : ∀ r, r < nr → ¬ xg (c * 8 + r) = 0 → ¬ xg (c * 8 + r) = 3 → post 0) (hf : (∀ r, r < nr → xg (c * 8 + r) = 0 ∨ xg (c * 8 + r) = 3) → post 1) : ∀ d i, i + d = nr → (∀ r, r < i → xg (c * 8 + r) = 0 ∨ xg (c * 8 + r) = 3) → wX_isWhollyCommitted_2 post (nI c) (nI nc) (nI nr) (nI nl) (nI nt) (nI ck) (nI bg) ph xs xp xq xg xv xf xl xc xh xw xz (d + 1) (nI i) := by
  intro d
  induction d with
  | zero =>
    intro i hi hb
    have e : i = nr := by omega
    subst e
    exact br_t (nI_le (Nat.le_refl i) (by omega)) (hf hb)
  | succ d ih =>
    intro i hi hb
    have h8 : ¬ nr ≤ i := by omega
    by_cases z : xg (c * 8 + i) = 0
    · have k := ih (i + 1) (by omega) (lt_s hb (Or.inl z))
      rw [wX_isWhollyCommitted_2]
      simp (disch := omega) only [wpX_clientCell, h8, z, pl_cc, pl_vc, pl_le8, pl_le32, pl_lt64, pl_lt1, pl_lt8, pl_lt32, nI_pos, nI_pos', vp_in_nI, nI_clamp, nI_1, nI_leI, nI_ltI, nI_eq, forall_eq, true_implies, forall_const, not_true_eq_false, not_false_eq_true, false_implies, and_true, true_and, implies_true, and_self, eq_self]
      exact k
    · by_cases y : xg (c * 8 + i) = 3
      · have k := ih (i + 1) (by omega) (lt_s hb (Or.inr y))
        rw [wX_isWhollyCommitted_2]
        simp (disch := omega) only [wpX_clientCell, h8, y, pl_nq, pl_cc, pl_vc, pl_le8, pl_le32, pl_lt64, pl_lt1, pl_lt8, pl_lt32, nI_pos, nI_pos', vp_in_nI, nI_clamp, nI_1, nI_leI, nI_ltI, nI_eq, forall_eq, true_implies, forall_const, not_true_eq_false, not_false_eq_true, false_implies, and_true, true_and, implies_true, and_self, eq_self]
        exact k
      · simp (disch := omega) only [wX_isWhollyCommitted_2, wpX_clientCell, h8, z, y, pl_cc, pl_vc, pl_le8, pl_le32, pl_lt64, pl_lt1, pl_lt8, pl_lt32, nI_pos, nI_pos', vp_in_nI, nI_clamp, nI_1, nI_leI, nI_ltI, nI_eq, forall_eq, true_implies, forall_const, not_true_eq_false, not_false_eq_true, false_implies, and_true, true_and, implies_true, and_self, eq_self]
        exact ht i (by omega) z y
theorem px_wc {post : Int32 → Prop} {c : Nat} (hc : c < 8) (hn : nr ≤ 8) (ht : ∀ r, r < nr → ¬ xg (c * 8 + r) = 0 → ¬ xg (c * 8 + r) = 3 → post 0) (hf : (∀ r, r < nr → xg (c * 8 + r) = 0 ∨ xg (c * 8 + r) = 3) → post 1) : wpX_isWhollyCommitted post (nI nc, nI nr, nI nl, nI nt, nI ck, nI bg, ph, xs, xp, xq, xg, xv, xf, xl, xc, xh, xw, xz) (nI c) := by
  have k := px_wcl (nc := nc) (nl := nl) (nt := nt) (ck := ck) (bg := bg) (ph := ph) (xs := xs) (xp := xp) (xq := xq) (xv := xv) (xf := xf) (xl := xl) (xc := xc) (xh := xh) (xw := xw) (xz := xz) hc hn ht hf nr 0 (by omega) lt_0
  rw [nI_0] at k
  exact ⟨nr + 1, k⟩
/-- hasVersion and versionValue once the rows below i are added -/
def pl_AV (c p i : Nat) (xg xv xw xz w z : Nat → Int32) : Prop :=
  (∀ r q, r < 8 → q < 65 → w (r * 65 + q) = if r < i ∧ q = p ∧ xg (c * 8 + r) ≠ 0 then 1 else xw (r * 65 + q)) ∧
  (∀ r q, r < 8 → q < 65 → z (r * 65 + q) = if r < i ∧ q = p ∧ xg (c * 8 + r) ≠ 0 then xv (c * 8 + r) else xz (r * 65 + q))
theorem pl_AV_0 {c p : Nat} : pl_AV c p 0 xg xv xw xz xw xz := ⟨fun r q _ _ => (if_neg (by omega)).symm, fun r q _ _ => (if_neg (by omega)).symm⟩
theorem pl_AV_f {c p i : Nat} {w z : Nat → Int32} (h : pl_AV c p i xg xv xw xz w z) (h0 : xg (c * 8 + i) = 0) : pl_AV c p (i + 1) xg xv xw xz w z := by
  have e : ∀ r q, (r < i + 1 ∧ q = p ∧ xg (c * 8 + r) ≠ 0) ↔ (r < i ∧ q = p ∧ xg (c * 8 + r) ≠ 0) := by
    intro r q
    constructor
    · intro y
      refine ⟨?_, y.2⟩
      by_cases l : r = i
      · exact absurd (by rw [l]; exact h0) y.2.2
      · omega
    · intro y
      exact ⟨by omega, y.2⟩
  refine ⟨fun r q hr hq => ?_, fun r q hr hq => ?_⟩
  · rw [h.1 r q hr hq]
    simp only [e]
  · rw [h.2 r q hr hq]
    simp only [e]
theorem pl_AV_t {c p i : Nat} {w z : Nat → Int32} (hp : p < 65) (hi : i < 8) (h : pl_AV c p i xg xv xw xz w z) (h0 : ¬ xg (c * 8 + i) = 0) : pl_AV c p (i + 1) xg xv xw xz (upd w (i * 65 + p) 1) (upd z (i * 65 + p) (xv (c * 8 + i))) := by
  have e : ∀ r q, r * 65 + q ≠ i * 65 + p → q < 65 → ((r < i + 1 ∧ q = p ∧ xg (c * 8 + r) ≠ 0) ↔ (r < i ∧ q = p ∧ xg (c * 8 + r) ≠ 0)) := by
    intro r q hn hq
    constructor
    · intro y
      exact ⟨by omega, y.2⟩
    · intro y
      exact ⟨by omega, y.2⟩
  refine ⟨fun r q hr hq => ?_, fun r q hr hq => ?_⟩
  · by_cases n : r * 65 + q = i * 65 + p
    · have a : r = i := by omega
      have b : q = p := by omega
      subst a
      subst b
      rw [pl_us]
      exact (if_pos ⟨by omega, rfl, h0⟩).symm
    · rw [pl_un n, h.1 r q hr hq]
      simp only [e r q n hq]
  · by_cases n : r * 65 + q = i * 65 + p
    · have a : r = i := by omega
      have b : q = p := by omega
      subst a
      subst b
      rw [pl_us]
      exact (if_pos ⟨by omega, rfl, h0⟩).symm
    · rw [pl_un n, h.2 r q hr hq]
      simp only [e r q n hq]
theorem pl_vb1 : vp_nar .boolean 1 = 1 := by decide
theorem px_avl {post : St2 → Prop} {c p : Nat} (hc : c < 8) (hn : nr ≤ 8) (hpp : p ≤ 64) (hxp : xp c = nI p) (hp : ∀ w z, pl_AV c p nr xg xv xw xz w z → post (nI nc, nI nr, nI nl, nI nt, nI ck, nI bg, ph, xs, xp, xq, xg, xv, xf, xl, xc, xh, w, z)) : ∀ d i w z, i + d = nr → pl_AV c p i xg xv xw xz w z → wX_addVersions_2 post (nI c) (nI nc) (nI nr) (nI nl) (nI nt) (nI ck) (nI bg) (d + 1) (nI i) ph xs xp xq xg xv xf xl xc xh w z := by
  intro d
  induction d with
  | zero =>
    intro i w z hi hA
    have e : i = nr := by omega
    subst e
    exact br_t (nI_le (Nat.le_refl i) (by omega)) (hp w z hA)
  | succ d ih =>
    intro i w z hi hA
    have h8 : ¬ nr ≤ i := by omega
    by_cases y : xg (c * 8 + i) = 0
    · have k := ih (i + 1) w z (by omega) (pl_AV_f hA y)
      rw [wX_addVersions_2]
      simp (disch := omega) only [wpX_clientCell, h8, y, pl_cc, pl_vc, pl_le8, pl_le32, pl_lt64, pl_lt1, pl_lt8, pl_lt32, nI_pos, nI_pos', vp_in_nI, nI_clamp, nI_1, nI_leI, nI_ltI, nI_eq, forall_eq, true_implies, forall_const, not_true_eq_false, not_false_eq_true, false_implies, and_true, true_and, implies_true, and_self, eq_self]
      exact k
    · have k := ih (i + 1) _ _ (by omega) (pl_AV_t (by omega) (by omega) hA y)
      rw [wX_addVersions_2]
      simp (disch := omega) only [wpX_clientCell, wpX_versionCell, h8, y, hxp, pl_vb1, pl_cc, pl_vc, pl_le8, pl_le32, pl_lt64, pl_lt1, pl_lt8, pl_lt32, nI_pos, nI_pos', vp_in_nI, nI_clamp, nI_1, nI_leI, nI_ltI, nI_eq, forall_eq, true_implies, forall_const, not_true_eq_false, not_false_eq_true, false_implies, and_true, true_and, implies_true, and_self, eq_self]
      exact k
theorem px_av {post : St2 → Prop} {c p : Nat} (hc : c < 8) (hn : nr ≤ 8) (hpp : p ≤ 64) (hxp : xp c = nI p) (hp : ∀ w z, pl_AV c p nr xg xv xw xz w z → post (nI nc, nI nr, nI nl, nI nt, nI ck, nI bg, ph, xs, xp, xq, xg, xv, xf, xl, xc, xh, w, z)) : wpX_addVersions post (nI nc, nI nr, nI nl, nI nt, nI ck, nI bg, ph, xs, xp, xq, xg, xv, xf, xl, xc, xh, xw, xz) (nI c) := by
  have k := px_avl hc hn hpp hxp hp nr 0 xw xz (by omega) pl_AV_0
  rw [nI_0] at k
  exact ⟨nr + 1, k⟩
theorem px_tkl {post : Int32 → St2 → Prop} {n : Int32} (hp : post 0 (nI nc, nI nr, nI nl, nI nt, nI ck, nI bg, ph, xs, xp, xq, xg, xv, xf, pl_xt n xf xl 65, xc, xh, xw, xz)) : ∀ d i, 1 ≤ i → i + d = 65 → wX_tick_10 post n (nI nc) (nI nr) (nI nl) (nI nt) (nI ck) (nI bg) (d + 1) (nI i) ph xs xp xq xg xv xf (pl_xt n xf xl i) xc xh xw xz := by
  intro d
  induction d with
  | zero =>
    intro i h1 hi
    have e : i = 65 := by omega
    subst e
    exact br_t (nI_lt (a := 64) (by decide) (by decide)) hp
  | succ d ih =>
    intro i h1 hi
    have h8 : ¬ 64 < i := by omega
    have k := ih (i + 1) (by omega) (by omega)
    rw [pl_xt_s h1] at k
    by_cases a : xf i = 2
    · rw [if_pos a] at k
      by_cases b : n < xl i
      · have e : pl_lz n (xl i) = xl i - n := if_neg (Int32.not_le.mpr b)
        rw [e] at k
        rw [wX_tick_10]
        simp (disch := omega) only [h8, a, b, pl_xt_i, pl_cc, pl_vc, pl_le8, pl_le32, pl_lt64, pl_lt1, pl_lt8, pl_lt32, nI_pos, nI_pos', vp_in_nI, nI_clamp, nI_1, nI_leI, nI_ltI, nI_eq, forall_eq, true_implies, forall_const, not_true_eq_false, not_false_eq_true, false_implies, and_true, true_and, implies_true, and_self, eq_self]
        exact k
      · have e : pl_lz n (xl i) = 0 := if_pos (Int32.not_lt.mp b)
        rw [e] at k
        rw [wX_tick_10]
        simp (disch := omega) only [h8, a, b, pl_xt_i, pl_cc, pl_vc, pl_le8, pl_le32, pl_lt64, pl_lt1, pl_lt8, pl_lt32, nI_pos, nI_pos', vp_in_nI, nI_clamp, nI_1, nI_leI, nI_ltI, nI_eq, forall_eq, true_implies, forall_const, not_true_eq_false, not_false_eq_true, false_implies, and_true, true_and, implies_true, and_self, eq_self]
        exact k
    · rw [if_neg a] at k
      rw [wX_tick_10]
      simp (disch := omega) only [h8, a, pl_cc, pl_vc, pl_le8, pl_le32, pl_lt64, pl_lt1, pl_lt8, pl_lt32, nI_pos, nI_pos', vp_in_nI, nI_clamp, nI_1, nI_leI, nI_ltI, nI_eq, forall_eq, true_implies, forall_const, not_true_eq_false, not_false_eq_true, false_implies, and_true, true_and, implies_true, and_self, eq_self]
      exact k
/-! a holder in the way -/
def pl_lk (bg r : Nat) (S : Nat → Nat) (xh yf yl yg yf' : Nat → Int32) : Prop :=
  (yf' = yf ∧ ∀ t, t < 32 → yf t = 2 → ¬ yg (t * 8 + r) = 2) ∨ ∃ t, t < bg ∧ yf t = 2 ∧ yg (t * 8 + r) = 2 ∧ yl t ≤ 0 ∧ xh r = nI (S t) ∧ (∀ t', t' < 32 → yf t' = 2 → yg (t' * 8 + r) = 2 → t' = t) ∧ yf' = upd yf t 4
theorem px_clear (H : pl_R nc nr nl nt ck bg S P M ph xs xp xq xg xv xf xl xc xh xw xz ym yf ys yp yq yl yg yv) {r : Nat} (hr : r < nr) {post : Int32 → St2 → Prop}
    (hL : ∀ t, t < bg → yf t = 2 → yg (t * 8 + r) = 2 → ¬ yl t ≤ 0 → xh r = nI (S t) → (∀ t', t' < 32 → yf t' = 2 → yg (t' * 8 + r) = 2 → t' = t) → post 0 (nI nc, nI nr, nI nl, nI nt, nI ck, nI bg, ph, xs, xp, xq, xg, xv, xf, xl, xc, xh, xw, xz))
    (hN : ∀ xf' xh' yf', pl_R nc nr nl nt ck bg S P M ph xs xp xq xg xv xf' xl xc xh' xw xz ym yf' ys yp yq yl yg yv → xh' r = -1 → pl_lk bg r S xh yf yl yg yf' → post 1 (nI nc, nI nr, nI nl, nI nt, nI ck, nI bg, ph, xs, xp, xq, xg, xv, xf', xl, xc, xh', xw, xz)) : wpX_clearTheWay post (nI nc, nI nr, nI nl, nI nt, nI ck, nI bg, ph, xs, xp, xq, xg, xv, xf, xl, xc, xh, xw, xz) (nI r) := by
  have hb := pl_b H
  rcases pl_hd H hr with ⟨e, z⟩ | ⟨t, lt, f2, g2, e, et, l1, l2, el, z⟩
  · simp (disch := omega) only [wpX_clearTheWay, e, pl_cc, pl_vc, pl_le8, pl_le32, pl_lt64, pl_lt1, pl_lt8, pl_lt32, nI_pos, nI_pos', vp_in_nI, nI_clamp, nI_1, nI_leI, nI_ltI, nI_eq, forall_eq, true_implies, forall_const, not_true_eq_false, not_false_eq_true, false_implies, and_true, true_and, implies_true, and_self, eq_self]
    exact hN xf xh yf H e (Or.inl ⟨rfl, z⟩)
  · have ne : ¬ nI (S t) = -1 := pl_ne1 (by omega)
    by_cases l : yl t ≤ 0
    · simp (disch := omega) only [wpX_clearTheWay, e, ne, el, l, pl_cc, pl_vc, pl_le8, pl_le32, pl_lt64, pl_lt1, pl_lt8, pl_lt32, nI_pos, nI_pos', vp_in_nI, nI_clamp, nI_1, nI_leI, nI_ltI, nI_eq, forall_eq, true_implies, forall_const, not_true_eq_false, not_false_eq_true, false_implies, and_true, true_and, implies_true, and_self, eq_self]
      refine px_roll (by omega) (by omega) ?_
      exact hN _ _ _ (pl_roll H lt f2) (pl_eh_i hr e) (Or.inr ⟨t, lt, f2, g2, l, e, z, rfl⟩)
    · simp (disch := omega) only [wpX_clearTheWay, e, ne, el, l, pl_cc, pl_vc, pl_le8, pl_le32, pl_lt64, pl_lt1, pl_lt8, pl_lt32, nI_pos, nI_pos', vp_in_nI, nI_clamp, nI_1, nI_leI, nI_ltI, nI_eq, forall_eq, true_implies, forall_const, not_true_eq_false, not_false_eq_true, false_implies, and_true, true_and, implies_true, and_self, eq_self]
      exact hL t lt f2 g2 l e z
theorem pl_u0 {c : Nat} : upd (fun _ => 0) c 0 = fun _ => 0 := by
  funext j
  unfold upd
  split <;> rfl
theorem pl_zr0 {c : Nat} : pl_zr c (fun _ => 0) = fun _ => 0 := by
  funext j
  unfold pl_zr
  split <;> rfl
theorem px_in2 {post : St2 → Prop} {f0 f1 f2 f3 f4 f5 : Int32} {mc ms kc ks : Nat} (hp : ∀ xh, (∀ r, r < 8 → xh r = -1) → post (f0, f1, f2, f3, f4, f5, ph, xs, xp, xq, xg, xv, xf, xl, xc, xh, xw, xz)) : ∀ d i xh, i + d = 8 → (∀ r, r < i → xh r = -1) → wX_init_183 post mc ms kc ks f0 f1 f2 f3 f4 f5 (d + 1) (nI i) ph xs xp xq xg xv xf xl xc xh xw xz := by
  intro d
  induction d with
  | zero =>
    intro i xh hi h
    have e : i = 8 := by omega
    subst e
    exact br_t (nI_le (Nat.le_refl 8) (by decide)) (hp xh h)
  | succ d ih =>
    intro i xh hi h
    have h8 : ¬ 8 ≤ i := by omega
    have k := ih (i + 1) (upd xh i (-1)) (by omega) (lt_s (fun r l => by rw [pl_un (by omega)]; exact h r l) pl_us)
    rw [wX_init_183]
    simp (disch := omega) only [h8, pl_cc, pl_vc, pl_le8, pl_le32, pl_lt64, pl_lt1, pl_lt8, pl_lt32, nI_pos, nI_pos', vp_in_nI, nI_clamp, nI_1, nI_leI, nI_ltI, nI_eq, forall_eq, true_implies, forall_const, not_true_eq_false, not_false_eq_true, false_implies, and_true, true_and, implies_true, and_self, eq_self]
    exact k
theorem px_in1 {post : St2 → Prop} {f0 f1 f2 f3 f4 f5 : Int32} {mc ms kc ks : Nat} (hp : ∀ xs xp xq xh, (∀ c, c < 8 → xs c = -1 ∧ xp c = -1 ∧ xq c = -1) → (∀ r, r < 8 → xh r = -1) → post (f0, f1, f2, f3, f4, f5, (fun _ => 0), xs, xp, xq, (fun _ => 0), xv, xf, xl, xc, xh, xw, xz)) : ∀ d i xs xp xq, i + d = 8 → (∀ c, c < i → xs c = -1 ∧ xp c = -1 ∧ xq c = -1) → wX_init_161 post mc ms kc ks (d + 1) (nI i) f0 f1 f2 f3 f4 f5 (fun _ => 0) xs xp xq (fun _ => 0) xv xf xl xc xh xw xz := by
  intro d
  induction d with
  | zero =>
    intro i xs xp xq hi h
    have e : i = 8 := by omega
    subst e
    have k := px_in2 (mc := mc) (ms := ms) (kc := kc) (ks := ks) (f0 := f0) (f1 := f1) (f2 := f2) (f3 := f3) (f4 := f4) (f5 := f5) (fun xh' h' => hp xs xp xq xh' h h') 8 0 xh rfl lt_0
    rw [nI_0] at k
    exact br_t (nI_le (Nat.le_refl 8) (by decide)) ⟨9, k⟩
  | succ d ih =>
    intro i xs xp xq hi h
    have k := ih (i + 1) (upd xs i (-1)) (upd xp i (-1)) (upd xq i (-1)) (by omega) (lt_s (fun r l => by rw [pl_un (by omega), pl_un (by omega), pl_un (by omega)]; exact h r l) ⟨pl_us, pl_us, pl_us⟩)
    rw [wX_init_161]
    refine br_f (nI_ge (b := 8) (by omega) (by decide)) (px_idle (by omega) ?_)
    rw [pl_u0, pl_zr0]
    intro y ey
    rw [ey, nI_1]
    exact k
theorem pl_clamp {p : Int32} {a b n : Nat} (hp : p = nI n) (h1 : a ≤ n) (h2 : n ≤ b) (hb : b < 2 ^ 31) {post : Int32 → Prop} (h : post (nI n)) : wpX_clamp post () p (nI a) (nI b) := by
  subst hp
  exact br_t (nI_le h1 (by omega)) (br_t (nI_le h2 hb) h)
end PLG
end
section
section PBA
/-! bits of a long; fields of a long -/
theorem pb_c : ∀ k, k < 64 → ((nI k).toInt64 &&& 63) = lN k := by decide +kernel
theorem pb_cu : ∀ k, k < 64 → ((nI k).toInt64.toUInt64 &&& Int64.toUInt64 63) = UInt64.ofNat k := by decide +kernel
theorem pb_sm : ∀ k, k < 64 → (BitVec.ofNat 64 k).smod 64 = BitVec.ofNat 64 k := by decide +kernel
theorem pb_tb (n : Nat) : (lN n).toBitVec = BitVec.ofNat 64 n := rfl
def pb_g (x : Int64) (i : Nat) : Bool := x.toBitVec.getLsbD i
theorem pb_or (x y : Int64) (i : Nat) : pb_g (x ||| y) i = (pb_g x i || pb_g y i) := by
  unfold pb_g
  rw [Int64.toBitVec_or, BitVec.getLsbD_or]
theorem pb_and (x y : Int64) (i : Nat) : pb_g (x &&& y) i = (pb_g x i && pb_g y i) := by
  unfold pb_g
  rw [Int64.toBitVec_and, BitVec.getLsbD_and]
theorem pb_not (x : Int64) {i : Nat} (hi : i < 64) : pb_g (x ^^^ (-1)) i = !pb_g x i := by
  unfold pb_g
  rw [Int64.toBitVec_xor, BitVec.getLsbD_xor, show Int64.toBitVec (-1) = BitVec.allOnes 64 by decide, BitVec.getLsbD_allOnes]
  simp [hi]
theorem pb_shr (x : Int64) {k : Nat} (hk : k < 64) : ((x.toUInt64 >>> ((nI k).toInt64.toUInt64 &&& Int64.toUInt64 63)).toInt64).toBitVec = x.toBitVec >>> k := by
  rw [pb_cu k hk]
  apply BitVec.eq_of_toNat_eq
  show (x.toUInt64 >>> UInt64.ofNat k).toNat = _
  have h1 : (UInt64.ofNat k).toNat = k := by
    show (BitVec.ofNat 64 k).toNat = k
    rw [BitVec.toNat_ofNat, Nat.mod_eq_of_lt (by omega)]
  rw [UInt64.toNat_shiftRight, h1, Nat.mod_eq_of_lt hk, BitVec.toNat_ushiftRight]
  rfl
theorem pb_shl (x : Int64) {k : Nat} (hk : k < 64) {i : Nat} (hi : i < 64) : pb_g (x <<< ((nI k).toInt64 &&& 63)) i = (decide (k ≤ i) && pb_g x (i - k)) := by
  unfold pb_g
  rw [pb_c k hk, Int64.toBitVec_shiftLeft, pb_tb, pb_sm k hk, BitVec.shiftLeft_eq', BitVec.toNat_ofNat, Nat.mod_eq_of_lt (by omega), BitVec.getLsbD_shiftLeft]
  by_cases h : k ≤ i
  · have h' : ¬ i < k := by omega
    simp [hi, h, h']
  · have h' : i < k := by omega
    simp [h, h']
theorem pb_lN {n i : Nat} (hi : i < 64) : pb_g (lN n) i = n.testBit i := by
  unfold pb_g
  rw [pb_tb, BitVec.getLsbD_ofNat]
  simp [hi]
theorem pb_1 {j : Nat} (h : j ≠ 0) : Nat.testBit 1 j = false := by
  cases j with
  | zero => exact absurd rfl h
  | succ j => simp [Nat.testBit_succ]
/-- one bit: test and set -/
theorem pb_one {s i : Nat} (hs : s < 64) (hi : i < 64) : pb_g ((1 : Int64) <<< ((nI s).toInt64 &&& 63)) i = decide (i = s) := by
  rw [pb_shl _ hs hi, show (1 : Int64) = lN 1 from rfl, pb_lN (by omega)]
  by_cases h : i = s
  · subst h
    simp
  · by_cases l : s ≤ i
    · have e : Nat.testBit 1 (i - s) = false := pb_1 (by omega)
      simp [h, e]
    · simp [h, l]
theorem pb_set (x : Int64) {s i : Nat} (hs : s < 64) (hi : i < 64) : pb_g (x ||| ((1 : Int64) <<< ((nI s).toInt64 &&& 63))) i = (pb_g x i || decide (i = s)) := by
  rw [pb_or, pb_one hs hi]
theorem pb_zero {x : Int64} : x = 0 ↔ ∀ i, i < 64 → pb_g x i = false := by
  constructor
  · intro h i hi
    subst h
    unfold pb_g
    simp
  · intro h
    apply Int64.toBitVec_inj.mp
    apply BitVec.eq_of_getLsbD_eq
    intro i hi
    have := h i hi
    unfold pb_g at this
    rw [this]
    simp
theorem pb_tst (x : Int64) {s : Nat} (hs : s < 64) : (x &&& ((1 : Int64) <<< ((nI s).toInt64 &&& 63))) = 0 ↔ pb_g x s = false := by
  rw [pb_zero]
  constructor
  · intro h
    have := h s hs
    rw [pb_and, pb_one hs hs] at this
    simpa using this
  · intro h i hi
    rw [pb_and, pb_one hs hi]
    by_cases e : i = s
    · rw [e, h]; rfl
    · simp [e]
theorem pb_tst2 (x : Int64) {s : Nat} (hs : s < 64) : (((x.toUInt64 >>> ((nI s).toInt64.toUInt64 &&& Int64.toUInt64 63)).toInt64) &&& 1) = 0 ↔ pb_g x s = false := by
  rw [pb_zero]
  have e1 : ∀ i, i < 64 → pb_g (1 : Int64) i = decide (i = 0) := by
    intro i hi
    rw [show (1 : Int64) = lN 1 from rfl, pb_lN hi]
    by_cases h : i = 0
    · subst h; rfl
    · have : Nat.testBit 1 i = false := by
        cases i with
        | zero => exact absurd rfl h
        | succ i => simp [Nat.testBit_succ]
      simp [h, this]
  have e2 : ∀ i, pb_g ((x.toUInt64 >>> ((nI s).toInt64.toUInt64 &&& Int64.toUInt64 63)).toInt64) i = pb_g x (s + i) := by
    intro i
    unfold pb_g
    rw [pb_shr x hs, BitVec.getLsbD_ushiftRight]
  constructor
  · intro h
    have := h 0 (by omega)
    rw [pb_and, e2, e1 0 (by omega)] at this
    simpa using this
  · intro h i hi
    rw [pb_and, e2, e1 i hi]
    by_cases e : i = 0
    · rw [e, Nat.add_zero, h]; rfl
    · simp [e]
/-- a field of m bits at k -/
def pb_f (x : Int64) (k m : Nat) : Nat := x.toBitVec.toNat >>> k % 2 ^ m
theorem pb_ft (x : Int64) (k m b : Nat) : (pb_f x k m).testBit b = (decide (b < m) && pb_g x (k + b)) := by
  unfold pb_f pb_g
  rw [Nat.testBit_mod_two_pow, Nat.testBit_shiftRight]
  rfl
theorem pb_fl (x : Int64) (k m : Nat) : pb_f x k m < 2 ^ m := Nat.mod_lt _ (Nat.two_pow_pos m)
theorem pb_fe {x y : Int64} {k m : Nat} (h : ∀ b, b < m → pb_g x (k + b) = pb_g y (k + b)) : pb_f x k m = pb_f y k m := by
  apply Nat.eq_of_testBit_eq
  intro b
  rw [pb_ft, pb_ft]
  by_cases hb : b < m
  · rw [h b hb]
  · simp [hb]
theorem pb_fz {k m : Nat} : pb_f 0 k m = 0 := by
  unfold pb_f
  simp
/-- a field set -/
def pb_put (x : Int64) (k m v : Nat) : Int64 := (x &&& ((lN (2 ^ m - 1) <<< ((nI k).toInt64 &&& 63)) ^^^ (-1))) ||| (lN v <<< ((nI k).toInt64 &&& 63))
theorem pb_pg {x : Int64} {k m v i : Nat} (hm : m ≤ 8) (hk : k < 64) (hi : i < 64) : pb_g (pb_put x k m v) i = ((pb_g x i && !(decide (k ≤ i) && decide (i - k < m))) || (decide (k ≤ i) && v.testBit (i - k))) := by
  unfold pb_put
  rw [pb_or, pb_and, pb_not _ hi, pb_shl _ hk hi, pb_shl _ hk hi, pb_lN (by omega), pb_lN (by omega), Nat.testBit_two_pow_sub_one]
theorem pb_ps {x : Int64} {k m v : Nat} (hm : m ≤ 8) (hk : k + m ≤ 64) (hv : v < 2 ^ m) (h0 : 0 < m) : pb_f (pb_put x k m v) k m = v := by
  apply Nat.eq_of_testBit_eq
  intro b
  rw [pb_ft]
  by_cases hb : b < m
  · rw [pb_pg hm (by omega) (by omega)]
    have e : k + b - k = b := by omega
    simp [hb, e]
  · have : v.testBit b = false := Nat.testBit_lt_two_pow (Nat.lt_of_lt_of_le hv (Nat.pow_le_pow_right (by omega) (by omega)))
    simp [hb, this]
theorem pb_pn {x : Int64} {k m v k' m' : Nat} (hm : m ≤ 8) (hk : k + m ≤ 64) (hv : v < 2 ^ m) (h0 : 0 < m) (hk' : k' + m' ≤ 64) (hd : k' + m' ≤ k ∨ k + m ≤ k') : pb_f (pb_put x k m v) k' m' = pb_f x k' m' := by
  apply pb_fe
  intro b hb
  rw [pb_pg hm (by omega) (by omega)]
  rcases hd with d | d
  · have e : ¬ k ≤ k' + b := by omega
    simp [e]
  · have e : k ≤ k' + b := by omega
    have e2 : ¬ k' + b - k < m := by omega
    have e3 : v.testBit (k' + b - k) = false := Nat.testBit_lt_two_pow (Nat.lt_of_lt_of_le hv (Nat.pow_le_pow_right (by omega) (by omega)))
    simp [e, e2, e3]
theorem pb_rd (x : Int64) {k : Nat} (hk : k < 64) : ((x.toUInt64 >>> ((nI k).toInt64.toUInt64 &&& Int64.toUInt64 63)).toInt64).toBitVec.toNat = x.toBitVec.toNat >>> k := by
  rw [pb_shr x hk, BitVec.toNat_ushiftRight]
theorem wb_tb (n : Nat) : (lN n).toBitVec = BitVec.ofNat 64 n := rfl
theorem wb_inj {a b : Int64} (h : a.toBitVec = b.toBitVec) : a = b := Int64.toBitVec_inj.mp h
theorem wb_tn {n : Nat} (h : n < 2 ^ 64) : (lN n).toBitVec.toNat = n := by rw [wb_tb, BitVec.toNat_ofNat, Nat.mod_eq_of_lt h]
theorem wb_of (x : Int64) : ∃ n, n < 2 ^ 64 ∧ x = lN n := ⟨x.toBitVec.toNat, x.toBitVec.isLt, wb_inj (by rw [wb_tb]; simp)⟩
theorem wb_lt2 {a b : Nat} (h : a < b) : 2 ^ a < 2 ^ b := Nat.pow_lt_pow_right (by decide) h
theorem wb_shr {n k : Nat} (hn : n < 2 ^ 64) (hk : k < 64) : ((lN n).toUInt64 >>> ((nI k).toInt64.toUInt64 &&& Int64.toUInt64 63)).toInt64 = lN (n / 2 ^ k) := by
  rw [pb_cu k hk]
  apply wb_inj
  apply BitVec.eq_of_toNat_eq
  show ((lN n).toUInt64 >>> UInt64.ofNat k).toNat = (BitVec.ofNat 64 _).toNat
  have h1 : (UInt64.ofNat k).toNat = k := by
    show (BitVec.ofNat 64 k).toNat = k
    rw [BitVec.toNat_ofNat, Nat.mod_eq_of_lt (by omega)]
  have h2 : (lN n).toUInt64.toNat = n := wb_tn hn
  rw [UInt64.toNat_shiftRight, h1, h2, Nat.mod_eq_of_lt hk, Nat.shiftRight_eq_div_pow, BitVec.toNat_ofNat, Nat.mod_eq_of_lt (Nat.lt_of_le_of_lt (Nat.div_le_self _ _) hn)]
theorem wb_and {a b : Nat} (ha : a < 2 ^ 64) (hb : b < 2 ^ 64) : lN a &&& lN b = lN (a &&& b) := by
  apply wb_inj
  rw [Int64.toBitVec_and, wb_tb, wb_tb, wb_tb]
  apply BitVec.eq_of_toNat_eq
  rw [BitVec.toNat_and, BitVec.toNat_ofNat, BitVec.toNat_ofNat, BitVec.toNat_ofNat, Nat.mod_eq_of_lt ha, Nat.mod_eq_of_lt hb, Nat.mod_eq_of_lt (Nat.and_lt_two_pow _ hb)]
theorem wb_mask {n k : Nat} (hn : n < 2 ^ 64) (hk : k < 64) : lN n &&& lN (2 ^ k - 1) = lN (n % 2 ^ k) := by
  rw [wb_and hn (by have := wb_lt2 hk; omega), Nat.and_two_pow_sub_one_eq_mod]
/-! the law's own helpers -/
theorem lw_ti (N : Nat) : (nI N).toBitVec.toNat = N % 2 ^ 32 := by
  show (BitVec.ofNat 32 N).toNat = _
  rw [BitVec.toNat_ofNat]
theorem lw_8 (c : Nat) : 8 * nI c = nI (8 * c) := pl_mul 8 c
theorem lw_at {post : Int32 → Prop} {p : Int64} {c : Nat} (hc : c < 8) (h : post (nI (pb_f p (8 * c) 8))) : wpL_at post () p (nI c) := by
  have e : (((p.toUInt64 >>> ((8 * nI c).toInt64.toUInt64 &&& Int64.toUInt64 63)).toInt64).toInt32) &&& 255 = nI (pb_f p (8 * c) 8) := by
    obtain ⟨n, hn, rfl⟩ := wb_of p
    rw [lw_8, wb_shr hn (by omega), lN_i, pk_and _ 8 (by decide), lw_ti, Nat.mod_mod_of_dvd _ (Nat.pow_dvd_pow 2 (by decide))]
    unfold pb_f
    rw [wb_tn hn, Nat.shiftRight_eq_div_pow]
  unfold wpL_at
  rw [e]
  exact h
theorem lw_with {post : Int64 → Prop} {p : Int64} {c v : Nat} (hv : v < 2 ^ 31) (h : post (pb_put p (8 * c) 8 v)) : wpL_with post () p (nI c) (nI v) := by
  unfold wpL_with
  rw [lw_8, nI_l hv]
  exact h
def lw_W (a b c d : Int64) (r : Nat) : Int64 := if r = 0 then a else if r = 1 then b else if r = 2 then c else d
theorem lw_sel {post : Int64 → Prop} {a b c d : Int64} {r : Nat} (hr : r < 4) (h : post (lw_W a b c d r)) : wpL_sel post () (nI r) a b c d := by
  have h4 : r = 0 ∨ r = 1 ∨ r = 2 ∨ r = 3 := by omega
  rcases h4 with e | e | e | e
  · subst e
    exact br_t rfl h
  · subst e
    exact br_f (by decide) (br_t rfl h)
  · subst e
    exact br_f (by decide) (br_f (by decide) (br_t rfl h))
  · subst e
    exact br_f (by decide) (br_f (by decide) (br_f (by decide) h))
def lw_v (q s r : Nat) : Int32 := if q = 1 then -1 else nI (300 * s + 10 * r + q)
theorem lw_val {post : Int32 → Prop} {q s r : Nat} (hq : q < 2 ^ 31) (h : post (lw_v q s r)) : wpL_value post () (nI q) (nI s) (nI r) := by
  unfold lw_v at h
  have e : 300 * nI s + 10 * nI r + nI q = nI (300 * s + 10 * r + q) := by
    have a : 300 * nI s = nI (300 * s) := pl_mul 300 s
    have b : 10 * nI r = nI (10 * r) := pl_mul 10 r
    rw [a, b, nI_add, nI_add]
  by_cases z : q = 1
  · rw [if_pos z] at h
    subst z
    exact br_t rfl h
  · rw [if_neg z] at h
    refine br_f (fun y => z ((nI_eq (b := 1) hq (by decide)).mp y)) ?_
    rw [e]
    exact h
theorem lw_q3 (x : Int64) {k : Nat} (hk : k < 64) : (((x.toUInt64 >>> ((nI k).toInt64.toUInt64 &&& Int64.toUInt64 63)).toInt64) &&& 3).toInt32 = nI (pb_f x k 2) := by
  obtain ⟨n, hn, rfl⟩ := wb_of x
  have e : lN (n / 2 ^ k) &&& 3 = lN (n / 2 ^ k % 2 ^ 2) := wb_mask (k := 2) (Nat.lt_of_le_of_lt (Nat.div_le_self _ _) hn) (by decide)
  rw [wb_shr hn hk, e, lN_i]
  unfold pb_f
  rw [wb_tn hn, Nat.shiftRight_eq_div_pow]
theorem lw_q0 (x : Int64) {k : Nat} (hk : k < 64) : (((x.toUInt64 >>> ((nI k).toInt64.toUInt64 &&& Int64.toUInt64 63)).toInt64) &&& 3) = 0 ↔ pb_f x k 2 = 0 := by
  obtain ⟨n, hn, rfl⟩ := wb_of x
  have e : lN (n / 2 ^ k) &&& 3 = lN (n / 2 ^ k % 2 ^ 2) := wb_mask (k := 2) (Nat.lt_of_le_of_lt (Nat.div_le_self _ _) hn) (by decide)
  have l : n / 2 ^ k % 2 ^ 2 < 2 ^ 2 := Nat.mod_lt _ (by decide)
  rw [wb_shr hn hk, e]
  unfold pb_f
  rw [wb_tn hn, Nat.shiftRight_eq_div_pow]
  exact lN_eq (b := 0) (by omega) (by decide)
end PBA
end
section
section LWB
abbrev lw_T98 : Type := Int64 → Int64 → Int64 → Int64 → Int64 → Int64 → Int64 → Int64 → Int64 → Int64 → Int64 → Int64 → Int64 → Int64 → Int64 → Int32 → Int32 → Int32 → Int32 → Int32 → Int32 → Int32 → Int32 → (Nat → Int32) → (Nat → Int32) → (Nat → Int32) → (Nat → Int32) → (Nat → Int32) → (Nat → Int32) → (Nat → Int32) → (Nat → Int32) → (Nat → Int32) → (Nat → Int32) → (Nat → Int32) → (Nat → Int32) → Prop
abbrev lw_T197 : Type := Int64 → Int64 → Int64 → Int64 → Int64 → Int64 → Int64 → Int64 → Int64 → Int64 → Int64 → Int64 → Int64 → Int64 → Int64 → Int32 → Int32 → Int32 → Int32 → Int32 → Int32 → Int32 → Int32 → Int32 → (Nat → Int32) → (Nat → Int32) → (Nat → Int32) → (Nat → Int32) → (Nat → Int32) → (Nat → Int32) → (Nat → Int32) → (Nat → Int32) → (Nat → Int32) → (Nat → Int32) → (Nat → Int32) → (Nat → Int32) → Prop
def lw_O (O : Nat → Int64) (p : Nat) : Nat := pb_f (O ((p - 1) / 8)) (8 * ((p - 1) % 8)) 8
def lw_B (bg : Nat) (S : Nat → Nat) (be : Int64) : Prop := ∀ s, s < 64 → (pb_g be s = true ↔ ∃ t, t < bg ∧ S t = s)
def lw_ST (ck bg : Nat) (S P : Nat → Nat) (st : Int64) : Prop := (∀ t, t < bg → (pb_g st (S t) = true ↔ P t ≠ 0)) ∧ (∀ s, ck < s → s < 64 → pb_g st s = false)
def lw_CU (nc : Nat) (S M : Nat → Nat) (cu : Int64) : Prop := ∀ c t, c < nc → M c = t + 1 → pb_f cu (8 * c) 8 = S t
def lw_WW (nr ck bg : Nat) (S : Nat → Nat) (yg yv : Nat → Int32) (W : Nat → Int64) : Prop :=
  (∀ r t, r < nr → t < bg → (pb_f (W r) (2 * (S t - 1)) 2 = 0 ↔ yg (t * 8 + r) = 0) ∧ (pb_f (W r) (2 * (S t - 1)) 2 ≠ 0 → yv (t * 8 + r) = lw_v (pb_f (W r) (2 * (S t - 1)) 2) (S t) r)) ∧
  (∀ r s, r < nr → ck < s → s ≤ 32 → pb_f (W r) (2 * (s - 1)) 2 = 0)
def lw_OO (bg : Nat) (S P : Nat → Nat) (O : Nat → Int64) : Prop := (∀ t, t < bg → P t ≠ 0 → lw_O O (P t) = S t) ∧ (∀ p, 1 ≤ p → p ≤ 32 → lw_O O p ≠ 0 → ∃ t, t < bg ∧ P t = p)
def lw_RM (nr ck bg : Nat) (P : Nat → Nat) (yf yg : Nat → Int32) (rm : Int64) : Prop := ∀ r, r < nr → pb_f rm (8 * r) 8 ≤ ck ∧ ∀ t, t < bg → yf t = 2 → P t ≠ 0 → yg (t * 8 + r) ≠ 0 → pb_f rm (8 * r) 8 < P t
def lw_K (bg : Nat) (S P : Nat → Nat) (yf yg : Nat → Int32) : Prop := ∀ t, t < bg → (yf t = 1 ∨ yf t = 2 ∨ yf t = 3 ∨ yf t = 4) ∧ (P t ≠ 0 → S t < P t) ∧ (∀ r, r < 8 → yf t ≠ 3 → yg (t * 8 + r) = 0 ∨ yg (t * 8 + r) = 1 ∨ yg (t * 8 + r) = 2) ∧ (yf t = 2 → P t ≠ 0 → ∀ r, r < 8 → yg (t * 8 + r) = 0 ∨ yg (t * 8 + r) = 2)
/-- what the law's longs say of the transactions, the fates' bits left out -/
def lw_I (nc nr nt ck bg : Nat) (S P M : Nat → Nat) (yf yg yv : Nat → Int32) (w0 w1 w2 w3 o0 o1 o2 o3 cu rm be st : Int64) : Prop :=
  nc ≤ 3 ∧ nr ≤ 4 ∧ nt = 16 ∧ lw_B bg S be ∧ lw_ST ck bg S P st ∧ lw_CU nc S M cu ∧ lw_WW nr ck bg S yg yv (lw_W w0 w1 w2 w3) ∧ lw_OO bg S P (lw_W o0 o1 o2 o3) ∧ lw_RM nr ck bg P yf yg rm ∧ lw_K bg S P yf yg
/-- the bits of a fate -/
def lw_bt (bo de dn : Int64) (s : Nat) (a b c : Bool) : Prop := pb_g bo s = a ∧ pb_g de s = b ∧ pb_g dn s = c
def lw_kp (S : Nat → Nat) (yf : Nat → Int32) (bo de dn : Int64) (t : Nat) : Prop :=
  (yf t = 1 ∧ lw_bt bo de dn (S t) false false false) ∨ (yf t = 2 ∧ lw_bt bo de dn (S t) true false false) ∨ (yf t = 3 ∧ lw_bt bo de dn (S t) true false true) ∨ (yf t = 4 ∧ lw_bt bo de dn (S t) true true false)
def lw_F (ck : Nat) (bo de dn : Int64) : Prop := ∀ s, ck < s → s < 64 → lw_bt bo de dn s false false false
variable {nc nr nl nt ck bg : Nat} {S P M : Nat → Nat} {ph xs xp xq xg xv xf xl xc xh xw xz ym yf ys yp yq yl yg yv : Nat → Int32}
variable {w0 w1 w2 w3 o0 o1 o2 o3 cu rm be bo de dn st : Int64} {kk aa bb op cc dd r0 re an jj rr pa pr kd : Int32} {kc ks L s : Nat} {xs0 : Nat → Int32} {post : Int32 → Prop} {J98 : lw_T98} {J197 : lw_T197}
/-- the newest version up to a -/
def lw_Ver (bg : Nat) (P : Nat → Nat) (yf yg yv : Nat → Int32) (r a : Nat) (vt v : Int32) : Prop :=
  (vt = -1 ∧ v = -1 ∧ ∀ t, t < bg → yf t = 3 → yg (t * 8 + r) ≠ 0 → ¬ P t ≤ a) ∨
  ∃ t, t < bg ∧ yf t = 3 ∧ yg (t * 8 + r) ≠ 0 ∧ P t ≤ a ∧ vt = nI (P t) ∧ v = yv (t * 8 + r) ∧ ∀ t', t' < bg → yf t' = 3 → yg (t' * 8 + r) ≠ 0 → P t' ≤ a → P t' ≤ P t
theorem lw_ver (H : pl_R nc nr nl nt ck bg S P M ph xs xp xq xg xv xf xl xc xh xw xz ym yf ys yp yq yl yg yv) {r a : Nat} {vt v z : Int32} (hr : r < nr) (hV : lw_Ver bg P yf yg yv r a vt v) (hz : ∀ q, 1 ≤ q → q ≤ ck → (nI q ≤ z ↔ q ≤ a)) :
    (∀ p : Int32 → Prop, p vt → wpX_versionTime p (nI nc, nI nr, nI nl, nI nt, nI ck, nI bg, ph, xs, xp, xq, xg, xv, xf, xl, xc, xh, xw, xz) (nI r) z) ∧ (∀ p : Int32 → Prop, p v → wpX_peek p (nI nc, nI nr, nI nl, nI nt, nI ck, nI bg, ph, xs, xp, xq, xg, xv, xf, xl, xc, xh, xw, xz) (nI r) z) := by
  have hb := pl_b H
  have hr' : ¬ nr ≤ r := by omega
  have hTP : ∀ t, t < bg → yp t = nI (P t) ∧ P t ≤ ck := fun t ht => H.2.2.2.1 t (by omega)
  have hT3 : ∀ t, t < bg → yf t = 3 → P t ≠ 0 := fun t ht => H.2.2.2.2.2.2.2.1 t (by omega)
  have hVE := H.2.2.2.2.2.2.2.2.2.2.2.2.2.2.2.2.2.2.2.1
  have hVX := H.2.2.2.2.2.2.2.2.2.2.2.2.2.2.2.2.2.2.2.2
  rcases hV with ⟨e1, e2, hn⟩ | ⟨t, lt, f3, g, le, e1, e2, hm⟩
  · subst e1
    subst e2
    have hx : ∀ q, 1 ≤ q → q ≤ 64 → nI q ≤ z → xw (r * 65 + q) = 0 := by
      intro q l1 l2 h
      by_cases y : xw (r * 65 + q) = 0
      · exact y
      · obtain ⟨t, lt, f3, g, e⟩ := hVX r q (by omega) l1 l2 y
        have := (hTP t lt).2
        exact absurd ((hz q l1 (by omega)).mp h) (by rw [← e]; exact hn t lt f3 g)
    refine ⟨fun p hp => ?_, fun p hp => ?_⟩
    · simp (disch := omega) only [wpX_versionTime, wpX_isRow, hr, hr', pl_nq, pl_cc, pl_vc, pl_le8, pl_le32, pl_lt64, pl_lt1, pl_lt8, pl_lt32, nI_pos, nI_pos', vp_in_nI, nI_clamp, nI_1, nI_leI, nI_ltI, nI_eq, forall_eq, true_implies, forall_const, not_true_eq_false, not_false_eq_true, false_implies, and_true, true_and, implies_true, and_self, eq_self]
      exact px_new_n (by omega) hx hp
    · simp (disch := omega) only [wpX_peek, wpX_isRow, wpX_valueAt, hr, hr', pl_nq, pl_cc, pl_vc, pl_le8, pl_le32, pl_lt64, pl_lt1, pl_lt8, pl_lt32, nI_pos, nI_pos', vp_in_nI, nI_clamp, nI_1, nI_leI, nI_ltI, nI_eq, forall_eq, true_implies, forall_const, not_true_eq_false, not_false_eq_true, false_implies, and_true, true_and, implies_true, and_self, eq_self]
      refine px_new_n (by omega) hx ?_
      simp (disch := omega) only [pl_m1, pl_cc, pl_vc, pl_le8, pl_le32, pl_lt64, pl_lt1, pl_lt8, pl_lt32, nI_pos, nI_pos', vp_in_nI, nI_clamp, nI_1, nI_leI, nI_ltI, nI_eq, forall_eq, true_implies, forall_const, not_true_eq_false, not_false_eq_true, false_implies, and_true, true_and, implies_true, and_self, eq_self]
      exact hp
  · subst e1
    subst e2
    have p0 := hT3 t lt f3
    have p1 := (hTP t lt).2
    have ve := hVE r t (by omega) lt f3 g
    have w0 : ¬ xw (r * 65 + P t) = 0 := by rw [ve.1]; decide
    have hx : ∀ q, P t < q → q ≤ 64 → nI q ≤ z → xw (r * 65 + q) = 0 := by
      intro q l1 l2 h
      by_cases y : xw (r * 65 + q) = 0
      · exact y
      · obtain ⟨t', lt', f3', g', e⟩ := hVX r q (by omega) (by omega) l2 y
        have := (hTP t' lt').2
        have a1 := (hz q (by omega) (by omega)).mp h
        have := hm t' lt' f3' g' (by omega)
        omega
    have hA : nI (P t) ≤ z := (hz (P t) (by omega) p1).mpr le
    refine ⟨fun p hp => ?_, fun p hp => ?_⟩
    · simp (disch := omega) only [wpX_versionTime, wpX_isRow, hr, hr', pl_nq, pl_cc, pl_vc, pl_le8, pl_le32, pl_lt64, pl_lt1, pl_lt8, pl_lt32, nI_pos, nI_pos', vp_in_nI, nI_clamp, nI_1, nI_leI, nI_ltI, nI_eq, forall_eq, true_implies, forall_const, not_true_eq_false, not_false_eq_true, false_implies, and_true, true_and, implies_true, and_self, eq_self]
      exact px_new_s (by omega) (by omega) (by omega) w0 hA hx hp
    · simp (disch := omega) only [wpX_peek, wpX_isRow, wpX_valueAt, hr, hr', pl_nq, pl_cc, pl_vc, pl_le8, pl_le32, pl_lt64, pl_lt1, pl_lt8, pl_lt32, nI_pos, nI_pos', vp_in_nI, nI_clamp, nI_1, nI_leI, nI_ltI, nI_eq, forall_eq, true_implies, forall_const, not_true_eq_false, not_false_eq_true, false_implies, and_true, true_and, implies_true, and_self, eq_self]
      refine px_new_s (by omega) (by omega) (by omega) w0 hA hx ?_
      have ne : ¬ nI (P t) = -1 := pl_ne1 (by omega)
      simp (disch := omega) only [wpX_versionCell, ne, ve.2, pl_cc, pl_vc, pl_le8, pl_le32, pl_lt64, pl_lt1, pl_lt8, pl_lt32, nI_pos, nI_pos', vp_in_nI, nI_clamp, nI_1, nI_leI, nI_ltI, nI_eq, forall_eq, true_implies, forall_const, not_true_eq_false, not_false_eq_true, false_implies, and_true, true_and, implies_true, and_self, eq_self]
      exact hp
theorem lw_2 (c : Nat) : 2 * nI c = nI (2 * c) := pl_mul 2 c
theorem lw_p1 {n : Nat} (h : 1 ≤ n) : nI n - 1 = nI (n - 1) := by
  obtain ⟨m, rfl⟩ : ∃ m, n = m + 1 := ⟨n - 1, by omega⟩
  exact nI_pred m
theorem lw_s3 {n : Nat} (h : n < 2 ^ 31) : nI n >>> ((3 : Int32) &&& 31) = nI (n / 8) := pk_shrN h _ 3 (by decide)
theorem lw_a7 {n : Nat} (h : n < 2 ^ 31) : nI n &&& 7 = nI (n % 8) := pk_andN (by omega) 3 (by decide)
theorem lw_c2 (n : Nat) : nI n + 2 = nI (n + 2) := nI_add n 2
/-- one time checked -/
theorem lw_1557 {J1419 : Int32 → Prop} {J1449 : Int32 → Int32 → Int32 → Prop} {ww : Int64} (H : pl_R nc nr nl nt ck bg S P M ph xs xp xq xg xv xf xl xc xh xw xz ym yf ys yp yq yl yg yv) {r a : Nat} {vt v x57 z : Int32} (hr : r < nr) (hV : lw_Ver bg P yf yg yv r a vt v) (hz : ∀ q, 1 ≤ q → q ≤ ck → (nI q ≤ z ↔ q ≤ a))
    (hx : (0 ≤ x57 ∧ x57 ≤ nI ck + 1 ∧ z = x57) ∨ (0 ≤ x57 ∧ ¬ x57 ≤ nI ck + 1 ∧ z = 2147483647) ∨ (¬ 0 ≤ x57 ∧ z = -2147483648)) (hJ : J1449 vt v (x57 + 1)) :
    wL_law_1557 post L xs0 J98 J197 J1419 J1449 (nI nc) (nI nr) w0 w1 w2 w3 o0 o1 o2 o3 cu rm be bo de dn st (nI ck) kk aa bb op cc dd r0 re an jj (nI r) ww vt v x57 kc ks (nI nc) (nI nr) (nI nl) (nI nt) (nI ck) (nI bg) ph xs xp xq xg xv xf xl xc xh xw xz := by
  obtain ⟨kV, kP⟩ := lw_ver H hr hV hz
  have go : wL_law_1583 post L xs0 J98 J197 J1419 J1449 (nI nc) (nI nr) w0 w1 w2 w3 o0 o1 o2 o3 cu rm be bo de dn st (nI ck) kk aa bb op cc dd r0 re an jj (nI r) ww vt v x57 z kc ks (nI nc) (nI nr) (nI nl) (nI nt) (nI ck) (nI bg) ph xs xp xq xg xv xf xl xc xh xw xz := by
    unfold wL_law_1583
    refine kV _ (br_t rfl (kP _ (br_t rfl ?_)))
    intro y ey
    rw [ey]
    exact hJ
  unfold wL_law_1557
  rcases hx with ⟨a1, a2, a3⟩ | ⟨a1, a2, a3⟩ | ⟨a1, a3⟩
  · subst a3
    exact br_t a1 (br_t a2 go)
  · subst a3
    exact br_t a1 (br_f a2 go)
  · subst a3
    exact br_f a1 go
theorem lw_tl {J1419 : Int32 → Prop} (H : pl_R nc nr nl nt ck bg S P M ph xs xp xq xg xv xf xl xc xh xw xz ym yf ys yp yq yl yg yv) (HI : lw_I nc nr nt ck bg S P M yf yg yv w0 w1 w2 w3 o0 o1 o2 o3 cu rm be st) (hk : ∀ t, t < bg → lw_kp S yf bo de dn t) {r : Nat} (hr : r < nr) (hJ : J1419 (nI r + 1)) :
    ∀ d u vt v, u + d = ck + 3 → lw_Ver bg P yf yg yv r (u - 1) vt v → wL_law_1449 post L xs0 J98 J197 J1419 (nI nc) (nI nr) w0 w1 w2 w3 o0 o1 o2 o3 cu rm be bo de dn st (nI ck) kk aa bb op cc dd r0 re an jj (nI r) (lw_W w0 w1 w2 w3 r) kc ks (nI nc) (nI nr) (nI nl) (nI nt) (nI ck) (nI bg) ph xs xp xq xg xv xf xl xc xh xw xz (d + 1) vt v (nI u) := by
  have hb := pl_b H
  obtain ⟨i1, i2, i3, iB, iST, iCU, iWW, iOO, iRM, iK⟩ := HI
  have hTS : ∀ t, t < bg → ys t = nI (S t) ∧ 1 ≤ S t ∧ S t ≤ ck := H.2.1
  have hTP : ∀ t, t < bg → yp t = nI (P t) ∧ P t ≤ ck := fun t ht => H.2.2.2.1 t (by omega)
  have hTJ : ∀ t t', t < bg → t' < bg → P t = P t' → P t = 0 ∨ t = t' := fun t t' a b => H.2.2.2.2.1 t t' (by omega) (by omega)
  have hT3 : ∀ t, t < bg → yf t = 3 → P t ≠ 0 := fun t ht => H.2.2.2.2.2.2.2.1 t (by omega)
  intro d
  induction d with
  | zero =>
    intro u vt v hu hV
    refine br_t ?_ (nm_e hJ)
    rw [lw_c2]
    exact nI_lt (by omega) (by omega)
  | succ d ih =>
    intro u vt v hu hV
    have h1 : ¬ ck + 2 < u := by omega
    -- the newest up to u stays what it was
    have keep : ∀ vt v, lw_Ver bg P yf yg yv r u vt v → wL_law_1557 post L xs0 J98 J197 J1419 (wL_law_1449 post L xs0 J98 J197 J1419 (nI nc) (nI nr) w0 w1 w2 w3 o0 o1 o2 o3 cu rm be bo de dn st (nI ck) kk aa bb op cc dd r0 re an jj (nI r) (lw_W w0 w1 w2 w3 r) kc ks (nI nc) (nI nr) (nI nl) (nI nt) (nI ck) (nI bg) ph xs xp xq xg xv xf xl xc xh xw xz (d + 1)) (nI nc) (nI nr) w0 w1 w2 w3 o0 o1 o2 o3 cu rm be bo de dn st (nI ck) kk aa bb op cc dd r0 re an jj (nI r) (lw_W w0 w1 w2 w3 r) vt v (nI u) kc ks (nI nc) (nI nr) (nI nl) (nI nt) (nI ck) (nI bg) ph xs xp xq xg xv xf xl xc xh xw xz := by
      intro vt v hV'
      have k := ih (u + 1) vt v (by omega) hV'
      rw [← nI_1] at k
      by_cases l : u ≤ ck + 1
      · exact lw_1557 (z := nI u) H hr hV' (fun q _ l2 => nI_leI (by omega) (by omega)) (Or.inl ⟨nI_pos' (by omega), by rw [nI_1]; exact nI_le l (by omega), rfl⟩) k
      · refine lw_1557 (z := 2147483647) H hr hV' (fun q _ l2 => ⟨fun _ => by omega, fun _ => nI_le (b := 2147483647) (by omega) (by decide)⟩) (Or.inr (Or.inl ⟨nI_pos' (by omega), ?_, rfl⟩)) k
        rw [nI_1]
        exact nI_ge (by omega) (by omega)
    rw [wL_law_1449]
    simp (disch := omega) only [lw_c2, h1, pl_cc, pl_vc, pl_le8, pl_le32, pl_lt64, pl_lt1, pl_lt8, pl_lt32, nI_pos, nI_pos', vp_in_nI, nI_clamp, nI_1, nI_leI, nI_ltI, nI_eq, forall_eq, true_implies, forall_const, not_true_eq_false, not_false_eq_true, false_implies, and_true, true_and, implies_true, and_self, eq_self]
    by_cases u0 : u < 1
    · have e : u = 0 := by omega
      subst e
      simp (disch := omega) only [wL_law_1501, wL_law_1502, u0, pl_cc, pl_vc, pl_le8, pl_le32, pl_lt64, pl_lt1, pl_lt8, pl_lt32, nI_pos, nI_pos', vp_in_nI, nI_clamp, nI_1, nI_leI, nI_ltI, nI_eq, forall_eq, true_implies, forall_const, not_true_eq_false, not_false_eq_true, false_implies, and_true, true_and, implies_true, and_self, eq_self]
      exact keep vt v hV
    · by_cases uc : ck < u
      · simp (disch := omega) only [wL_law_1501, wL_law_1502, u0, uc, pl_cc, pl_vc, pl_le8, pl_le32, pl_lt64, pl_lt1, pl_lt8, pl_lt32, nI_pos, nI_pos', vp_in_nI, nI_clamp, nI_1, nI_leI, nI_ltI, nI_eq, forall_eq, true_implies, forall_const, not_true_eq_false, not_false_eq_true, false_implies, and_true, true_and, implies_true, and_self, eq_self]
        refine keep vt v ?_
        rcases hV with ⟨e1, e2, hn⟩ | ⟨t, lt, f3, g, le, e1, e2, hm⟩
        · exact Or.inl ⟨e1, e2, fun t lt f g l => hn t lt f g (by have := (hTP t lt).2; omega)⟩
        · exact Or.inr ⟨t, lt, f3, g, by omega, e1, e2, fun t' lt' f g' l => hm t' lt' f g' (by have := (hTP t' lt').2; omega)⟩
      · have uc' : u ≤ ck := by omega
        -- no committed transaction of this row has the stamp u: nothing changes
        have same : (∀ t, t < bg → P t = u → yf t = 3 → yg (t * 8 + r) = 0) → lw_Ver bg P yf yg yv r u vt v := by
          intro hno
          have st : ∀ t, t < bg → yf t = 3 → yg (t * 8 + r) ≠ 0 → P t ≤ u → P t ≤ u - 1 := by
            intro t lt f g l
            have ne : P t ≠ u := fun e => g (hno t lt e f)
            omega
          rcases hV with ⟨e1, e2, hn⟩ | ⟨t, lt, f3, g, le, e1, e2, hm⟩
          · exact Or.inl ⟨e1, e2, fun t lt f g l => hn t lt f g (st t lt f g l)⟩
          · exact Or.inr ⟨t, lt, f3, g, by omega, e1, e2, fun t' lt' f g' l => hm t' lt' f g' (st t' lt' f g' l)⟩
        simp (disch := omega) only [u0, uc, pl_cc, pl_vc, pl_le8, pl_le32, pl_lt64, pl_lt1, pl_lt8, pl_lt32, nI_pos, nI_pos', vp_in_nI, nI_clamp, nI_1, nI_leI, nI_ltI, nI_eq, forall_eq, true_implies, forall_const, not_true_eq_false, not_false_eq_true, false_implies, and_true, true_and, implies_true, and_self, eq_self]
        rw [lw_p1 (by omega), lw_s3 (by omega), lw_a7 (by omega)]
        refine lw_sel (by omega) (lw_at (by omega) ?_)
        have eo : pb_f (lw_W o0 o1 o2 o3 ((u - 1) / 8)) (8 * ((u - 1) % 8)) 8 = lw_O (lw_W o0 o1 o2 o3) u := rfl
        rw [eo]
        by_cases z : lw_O (lw_W o0 o1 o2 o3) u = 0
        · rw [z, nI_0]
          unfold wL_law_1502
          refine br_t rfl (keep vt v (same ?_))
          intro t lt e f
          have := iOO.1 t lt (by omega)
          rw [e, z] at this
          have := (hTS t lt).2.1
          omega
        · obtain ⟨t, lt, e⟩ := iOO.2 u (by omega) (by omega) z
          have eS := iOO.1 t lt (by omega)
          rw [e] at eS
          have sS := hTS t lt
          rw [eS]
          have only : ∀ t', t' < bg → P t' = u → t' = t := by
            intro t' lt' e'
            rcases hTJ t' t lt' lt (by omega) with y | y
            · omega
            · exact y
          unfold wL_law_1502
          refine br_f (nI_ne0 (by omega) (by omega)) ?_
          by_cases f3 : yf t = 3
          · have bt : pb_g dn (S t) = true := by
              rcases hk t lt with ⟨y, _⟩ | ⟨y, _⟩ | ⟨_, y⟩ | ⟨y, _⟩
              · rw [y] at f3; exact absurd f3 (by decide)
              · rw [y] at f3; exact absurd f3 (by decide)
              · exact y.2.2
              · rw [y] at f3; exact absurd f3 (by decide)
            refine br_f (fun y => by rw [pb_tst2 _ (by omega), bt] at y; exact absurd y (by decide)) ?_
            rw [lw_p1 (by omega), lw_2]
            rw [lw_q3 _ (by omega)]
            obtain ⟨w1', w2'⟩ := iWW.1 r t hr lt
            have fl := pb_fl (lw_W w0 w1 w2 w3 r) (2 * (S t - 1)) 2
            refine nm_e ?_
            by_cases q0 : pb_f (lw_W w0 w1 w2 w3 r) (2 * (S t - 1)) 2 = 0
            · rw [q0, nI_0]
              refine br_t rfl (keep vt v (same ?_))
              intro t' lt' e' f'
              rw [only t' lt' e']
              exact w1'.mp q0
            · refine br_f (nI_ne0 (by omega) (by omega)) ?_
              refine lw_val (by omega) ?_
              rw [← w2' q0]
              refine keep (nI u) (yv (t * 8 + r)) (Or.inr ⟨t, lt, f3, fun y => q0 (w1'.mpr y), by omega, by rw [e], rfl, fun t' _ _ _ l => by omega⟩)
          · have bt : pb_g dn (S t) = false := by
              rcases hk t lt with ⟨_, y⟩ | ⟨_, y⟩ | ⟨y, _⟩ | ⟨_, y⟩
              · exact y.2.2
              · exact y.2.2
              · exact absurd y f3
              · exact y.2.2
            refine br_t ((pb_tst2 _ (by omega)).mpr bt) (keep vt v (same ?_))
            intro t' lt' e' f'
            rw [only t' lt' e'] at f'
            exact absurd f' f3
theorem lw_rl (H : pl_R nc nr nl nt ck bg S P M ph xs xp xq xg xv xf xl xc xh xw xz ym yf ys yp yq yl yg yv) (HI : lw_I nc nr nt ck bg S P M yf yg yv w0 w1 w2 w3 o0 o1 o2 o3 cu rm be st) (hk : ∀ t, t < bg → lw_kp S yf bo de dn t)
    (hJ : J197 w0 w1 w2 w3 o0 o1 o2 o3 cu rm be bo de dn st (nI ck) an (jj + 1) (nI nc) (nI nr) (nI nl) (nI nt) (nI ck) (nI bg) ph xs xp xq xg xv xf xl xc xh xw xz) : ∀ d i, i + d = nr → wL_law_1419 post L xs0 J98 J197 (nI nc) (nI nr) w0 w1 w2 w3 o0 o1 o2 o3 cu rm be bo de dn st (nI ck) kk aa bb op cc dd r0 re an jj kc ks (nI nc) (nI nr) (nI nl) (nI nt) (nI ck) (nI bg) ph xs xp xq xg xv xf xl xc xh xw xz (d + 1) (nI i) := by
  have hb := pl_b H
  have hT3 : ∀ t, t < bg → yf t = 3 → P t ≠ 0 := fun t ht => H.2.2.2.2.2.2.2.1 t (by omega)
  intro d
  induction d with
  | zero =>
    intro i hi
    have e : i = nr := by omega
    subst e
    exact br_t (nI_le (Nat.le_refl i) (by omega)) (nm_e hJ)
  | succ d ih =>
    intro i hi
    have k := ih (i + 1) (by omega)
    rw [← nI_1] at k
    rw [wL_law_1419]
    refine br_f (nI_ge (by omega) (by omega)) (lw_sel (by have := HI.2.1; omega) ⟨ck + 3 + 1 + 1, ?_⟩)
    -- the time before all others, then the rest
    have v0 : lw_Ver bg P yf yg yv i 0 (-1) (-1) := Or.inl ⟨rfl, rfl, fun t lt f g l => hT3 t lt f (by omega)⟩
    have k0 := lw_tl (J1419 := wL_law_1419 post L xs0 J98 J197 (nI nc) (nI nr) w0 w1 w2 w3 o0 o1 o2 o3 cu rm be bo de dn st (nI ck) kk aa bb op cc dd r0 re an jj kc ks (nI nc) (nI nr) (nI nl) (nI nt) (nI ck) (nI bg) ph xs xp xq xg xv xf xl xc xh xw xz (d + 1)) (L := L) (post := post) (xs0 := xs0) (J98 := J98) (J197 := J197) (kk := kk) (aa := aa) (bb := bb) (op := op) (cc := cc) (dd := dd) (r0 := r0) (re := re) (an := an) (jj := jj) (kc := kc) (ks := ks) H HI hk (r := i) (by omega) k (ck + 3) 0 (-1) (-1) (by omega) v0
    rw [wL_law_1449]
    have e1 : ¬ nI ck + 2 < -1 := fun y => by
      rw [lw_c2] at y
      exact absurd (Int32.lt_trans y (by decide : (-1 : Int32) < 0)) (nI_pos (by omega))
    refine br_f e1 (br_t (by decide) ?_)
    unfold wL_law_1501 wL_law_1502
    refine br_t rfl (lw_1557 (z := -2147483648) H (by omega) v0 (fun q l1 l2 => ⟨fun y => ?_, fun y => by omega⟩) (Or.inr (Or.inr ⟨by decide, rfl⟩)) ?_)
    · exact absurd (Int32.le_trans (nI_pos' (n := q) (by omega)) y) (by decide)
    · rw [show (-1 : Int32) + 1 = nI 0 from rfl]
      exact k0
end LWB
end
section
section LWC
variable {nc nr nl nt ck bg : Nat} {S P M : Nat → Nat} {ph xs xp xq xg xv xf xl xc xh xw xz ym yf ys yp yq yl yg yv : Nat → Int32}
variable {w0 w1 w2 w3 o0 o1 o2 o3 cu rm be bo de dn st : Int64} {kk aa bb op cc dd r0 re an jj rr pa pr kd : Int32} {kc ks L s : Nat} {xs0 : Nat → Int32} {post : Int32 → Prop} {J98 : lw_T98} {J197 : lw_T197}
/-- a transaction's fate beside its bits, right behind a call: as they were, or the one change that the call may have made -/
def lw_sta (nr : Nat) (S P : Nat → Nat) (yf yg : Nat → Int32) (bo de dn rm : Int64) (kd an : Int32) (s : Nat) (rr pr pa : Int32) (t : Nat) : Prop :=
  lw_kp S yf bo de dn t ∨ (yf t = 2 ∧ lw_bt bo de dn (S t) false false false ∧ kd = 2 ∧ an = 0 ∧ S t = s) ∨
  (yf t = 4 ∧ lw_bt bo de dn (S t) true false false ∧ ((kd = 9 ∧ S t = s) ∨ ((kd = 2 ∨ kd = 5) ∧ S t ≠ s))) ∨
  (yf t = 3 ∧ lw_bt bo de dn (S t) true false false ∧ kd = 4 ∧ an = 0 ∧ S t = s ∧ rr = pr ∧ pa = 3 ∧ ∀ i, i < nr → yg (t * 8 + i) ≠ 0 → pb_f rm (8 * i) 8 < P t)
theorem lw_kp_c {bo' de' dn' : Int64} {t : Nat} (e1 : pb_g bo' (S t) = pb_g bo (S t)) (e2 : pb_g de' (S t) = pb_g de (S t)) (e3 : pb_g dn' (S t) = pb_g dn (S t)) (h : lw_kp S yf bo de dn t) : lw_kp S yf bo' de' dn' t := by
  unfold lw_kp lw_bt at h ⊢
  rw [e1, e2, e3]
  exact h
theorem lw_sta_c {bo' de' dn' : Int64} {t : Nat} (e1 : pb_g bo' (S t) = pb_g bo (S t)) (e2 : pb_g de' (S t) = pb_g de (S t)) (e3 : pb_g dn' (S t) = pb_g dn (S t)) (h : lw_sta nr S P yf yg bo de dn rm kd an s rr pr pa t) : lw_sta nr S P yf yg bo' de' dn' rm kd an s rr pr pa t := by
  unfold lw_sta lw_kp lw_bt at h ⊢
  rw [e1, e2, e3]
  exact h
theorem px_fate (H : pl_R nc nr nl nt ck bg S P M ph xs xp xq xg xv xf xl xc xh xw xz ym yf ys yp yq yl yg yv) {t : Nat} (lt : t < bg) {p : Int32 → Prop} (h3 : yf t = 3 → p (nI (P t))) (h2 : yf t = 2 → p 0) (h1 : ¬ yf t = 3 → ¬ yf t = 2 → p (-1)) : wpX_fate p (nI nc, nI nr, nI nl, nI nt, nI ck, nI bg, ph, xs, xp, xq, xg, xv, xf, xl, xc, xh, xw, xz) (nI (S t)) := by
  have hb := pl_b H
  obtain ⟨s1, s2, s3⟩ := H.2.1 t lt
  have ef : xf (S t) = yf t := H.2.2.2.2.2.2.2.2.2.2.2.2.2.1 t lt
  have q1 : ¬ S t < 1 := by omega
  have q2 : ¬ 64 < S t := by omega
  by_cases f3 : yf t = 3
  · have ec : xc (S t) = nI (P t) := H.2.2.2.2.2.2.2.2.2.2.2.2.2.2.2.1 t lt f3
    simp (disch := omega) only [wpX_fate, wpX_fateAt, q1, q2, ef, f3, ec, pl_cc, pl_vc, pl_le8, pl_le32, pl_lt64, pl_lt1, pl_lt8, pl_lt32, nI_pos, nI_pos', vp_in_nI, nI_clamp, nI_1, nI_leI, nI_ltI, nI_eq, forall_eq, true_implies, forall_const, not_true_eq_false, not_false_eq_true, false_implies, and_true, true_and, implies_true, and_self, eq_self]
    exact h3 f3
  · by_cases f2 : yf t = 2
    · simp (disch := omega) only [wpX_fate, wpX_fateAt, q1, q2, ef, f2, pl_nq, pl_cc, pl_vc, pl_le8, pl_le32, pl_lt64, pl_lt1, pl_lt8, pl_lt32, nI_pos, nI_pos', vp_in_nI, nI_clamp, nI_1, nI_leI, nI_ltI, nI_eq, forall_eq, true_implies, forall_const, not_true_eq_false, not_false_eq_true, false_implies, and_true, true_and, implies_true, and_self, eq_self]
      exact h2 f2
    · simp (disch := omega) only [wpX_fate, wpX_fateAt, q1, q2, ef, f3, f2, pl_cc, pl_vc, pl_le8, pl_le32, pl_lt64, pl_lt1, pl_lt8, pl_lt32, nI_pos, nI_pos', vp_in_nI, nI_clamp, nI_1, nI_leI, nI_ltI, nI_eq, forall_eq, true_implies, forall_const, not_true_eq_false, not_false_eq_true, false_implies, and_true, true_and, implies_true, and_self, eq_self]
      exact h1 f3 f2
/-- a newly committed transaction's stamp is above every reader of its rows -/
theorem lw_1309 {J1027 : Int64 → Int64 → Int64 → Int32 → Prop} {u t : Nat} (hn : nr ≤ 4) (hu : 1 ≤ u) (hu' : u ≤ 32) (hp : P t < 2 ^ 31) (hw : ∀ i, i < nr → (pb_f (lw_W w0 w1 w2 w3 i) (2 * (u - 1)) 2 = 0 ↔ yg (t * 8 + i) = 0)) (hr : ∀ i, i < nr → yg (t * 8 + i) ≠ 0 → pb_f rm (8 * i) 8 < P t) (hJ : J1027 bo de dn (nI u + 1)) :
    ∀ d i, i + d = nr → wL_law_1309 post L xs0 J98 J197 J1027 (nI nc) (nI nr) w0 w1 w2 w3 o0 o1 o2 o3 cu rm be bo de dn st (nI ck) kk aa bb op cc dd r0 re an jj rr pa pr kd (nI s) (nI u) (nI (P t)) kc ks (nI nc) (nI nr) (nI nl) (nI nt) (nI ck) (nI bg) ph xs xp xq xg xv xf xl xc xh xw xz (d + 1) (nI i) := by
  intro d
  induction d with
  | zero =>
    intro i hi
    have e : i = nr := by omega
    subst e
    exact br_t (nI_le (Nat.le_refl i) (by omega)) (nm_e hJ)
  | succ d ih =>
    intro i hi
    have k := ih (i + 1) (by omega)
    rw [wL_law_1309]
    refine br_f (nI_ge (by omega) (by omega)) (lw_sel (by omega) ?_)
    rw [lw_p1 hu, lw_2]
    refine br_c (fun _ => nm_r (nI_1 i) k) (fun z => lw_at (by omega) ?_)
    rw [lw_q0 _ (by omega), hw i (by omega)] at z
    have l := hr i (by omega) z
    exact br_t (nI_lt l hp) (nm_r (nI_1 i) k)
theorem lw_fl (H : pl_R nc nr nl nt ck bg S P M ph xs xp xq xg xv xf xl xc xh xw xz ym yf ys yp yq yl yg yv) (HI : lw_I nc nr nt ck bg S P M yf yg yv w0 w1 w2 w3 o0 o1 o2 o3 cu rm be st) (hs : s < 256)
    (hC : kd = 4 → an = 0 → ∃ t, t < bg ∧ S t = s ∧ yf t = 3) (hD : an = -11 → ∃ t, t < bg ∧ S t = s ∧ yf t = 4)
    (hJ : ∀ bo de dn, (∀ t, t < bg → lw_kp S yf bo de dn t) → lw_F ck bo de dn → J197 w0 w1 w2 w3 o0 o1 o2 o3 cu rm be bo de dn st (nI ck) an (jj + 1) (nI nc) (nI nr) (nI nl) (nI nt) (nI ck) (nI bg) ph xs xp xq xg xv xf xl xc xh xw xz) :
    ∀ d u bo de dn, u + d = ck + 1 → 1 ≤ u → (∀ t, t < bg → lw_kp S yf bo de dn t ∨ (u ≤ S t ∧ lw_sta nr S P yf yg bo de dn rm kd an s rr pr pa t)) → lw_F ck bo de dn → wL_law_1027 post L xs0 J98 J197 (nI nc) (nI nr) w0 w1 w2 w3 o0 o1 o2 o3 cu rm be st (nI ck) kk aa bb op cc dd r0 re an jj rr pa pr kd (nI s) kc ks (nI nc) (nI nr) (nI nl) (nI nt) (nI ck) (nI bg) ph xs xp xq xg xv xf xl xc xh xw xz (d + 1) bo de dn (nI u) := by
  have hb := pl_b H
  obtain ⟨i1, i2, i3, iB, iST, iCU, iWW, iOO, iRM, iK⟩ := HI
  have HI : lw_I nc nr nt ck bg S P M yf yg yv w0 w1 w2 w3 o0 o1 o2 o3 cu rm be st := ⟨i1, i2, i3, iB, iST, iCU, iWW, iOO, iRM, iK⟩
  have hTS : ∀ t, t < bg → ys t = nI (S t) ∧ 1 ≤ S t ∧ S t ≤ ck := H.2.1
  have hTI := H.2.2.1
  have hTP : ∀ t, t < bg → yp t = nI (P t) ∧ P t ≤ ck := fun t ht => H.2.2.2.1 t (by omega)
  have hT3 : ∀ t, t < bg → yf t = 3 → P t ≠ 0 := fun t ht => H.2.2.2.2.2.2.2.1 t (by omega)
  intro d
  induction d with
  | zero =>
    intro u bo de dn hu h1 hst hF
    have kp : ∀ t, t < bg → lw_kp S yf bo de dn t := by
      intro t lt
      rcases hst t lt with y | y
      · exact y
      · have := (hTS t lt).2.2
        omega
    have k0 := lw_rl (L := L) (post := post) (xs0 := xs0) (J98 := J98) (J197 := J197) (kk := kk) (aa := aa) (bb := bb) (op := op) (cc := cc) (dd := dd) (r0 := r0) (re := re) (an := an) (jj := jj) (kc := kc) (ks := ks) H HI kp (hJ bo de dn kp hF) nr 0 (by omega)
    rw [nI_0] at k0
    have k1 : wL_law_1395 post L xs0 J98 J197 (nI nc) (nI nr) w0 w1 w2 w3 o0 o1 o2 o3 cu rm be bo de dn st (nI ck) kk aa bb op cc dd r0 re an jj (nI s) kc ks (nI nc) (nI nr) (nI nl) (nI nt) (nI ck) (nI bg) ph xs xp xq xg xv xf xl xc xh xw xz := by
      unfold wL_law_1395
      refine br_c (fun e => ?_) (fun _ => ⟨nr + 1, k0⟩)
      obtain ⟨t, lt, eS, f4⟩ := hD e
      refine br_f (fun y => ?_) ⟨nr + 1, k0⟩
      rw [pb_tst2 _ (by have := (hTS t lt).2.2; omega), ← eS] at y
      rcases kp t lt with ⟨z, _⟩ | ⟨z, _⟩ | ⟨z, _⟩ | ⟨_, z⟩
      · rw [z] at f4; exact absurd f4 (by decide)
      · rw [z] at f4; exact absurd f4 (by decide)
      · rw [z] at f4; exact absurd f4 (by decide)
      · rw [z.2.1] at y; exact absurd y (by decide)
    refine br_t (nI_lt (by omega) (by omega)) (br_c (fun e4 => br_c (fun e0 => ?_) (fun _ => k1)) (fun _ => k1))
    obtain ⟨t, lt, eS, f3⟩ := hC e4 e0
    refine br_f (fun y => ?_) k1
    rw [pb_tst2 _ (by have := (hTS t lt).2.2; omega), ← eS] at y
    rcases kp t lt with ⟨z, _⟩ | ⟨z, _⟩ | ⟨_, z⟩ | ⟨z, _⟩
    · rw [z] at f3; exact absurd f3 (by decide)
    · rw [z] at f3; exact absurd f3 (by decide)
    · rw [z.2.2] at y; exact absurd y (by decide)
    · rw [z] at f3; exact absurd f3 (by decide)
  | succ d ih =>
    intro u bo de dn hu h1 hst hF
    rw [wL_law_1027]
    refine br_f (nI_nlt (by omega) (by omega)) (nm_e ?_)
    by_cases bu : pb_g be u = true
    · obtain ⟨t, lt, eS⟩ := (iB u (by omega)).mp bu
      have tb : ∀ x : Int64, (x &&& ((1 : Int64) <<< ((nI u).toInt64 &&& 63))) = 0 ↔ pb_g x u = false := fun x => pb_tst x (by omega)
      have tf : ∀ {x : Int64}, pb_g x u = true → ¬ (x &&& ((1 : Int64) <<< ((nI u).toInt64 &&& 63))) = 0 := fun h z => by
        rw [tb, h] at z
        exact absurd z (by decide)
      have nxt : ∀ bo' de' dn', (∀ i, i < 64 → i ≠ u → pb_g bo' i = pb_g bo i ∧ pb_g de' i = pb_g de i ∧ pb_g dn' i = pb_g dn i) → lw_kp S yf bo' de' dn' t → wL_law_1027 post L xs0 J98 J197 (nI nc) (nI nr) w0 w1 w2 w3 o0 o1 o2 o3 cu rm be st (nI ck) kk aa bb op cc dd r0 re an jj rr pa pr kd (nI s) kc ks (nI nc) (nI nr) (nI nl) (nI nt) (nI ck) (nI bg) ph xs xp xq xg xv xf xl xc xh xw xz (d + 1) bo' de' dn' (nI u + 1) := by
        intro bo' de' dn' hq hkt
        rw [nI_1]
        refine ih (u + 1) bo' de' dn' (by omega) (by omega) (fun t' lt' => ?_) (fun i l1 l2 => ?_)
        · by_cases e : t' = t
          · rw [e]; exact Or.inl hkt
          · have ne : S t' ≠ u := by rw [← eS]; exact pl_Sj hTI lt' lt e
            have l := (hTS t' lt').2.2
            obtain ⟨q1, q2, q3⟩ := hq (S t') (by omega) ne
            rcases hst t' lt' with y | ⟨y1, y2⟩
            · exact Or.inl (lw_kp_c q1 q2 q3 y)
            · exact Or.inr ⟨by omega, lw_sta_c q1 q2 q3 y2⟩
        · obtain ⟨q1, q2, q3⟩ := hq i l2 (by omega)
          obtain ⟨z1, z2, z3⟩ := hF i l1 l2
          exact ⟨by rw [q1]; exact z1, by rw [q2]; exact z2, by rw [q3]; exact z3⟩
      have same : lw_kp S yf bo de dn t → wL_law_1027 post L xs0 J98 J197 (nI nc) (nI nr) w0 w1 w2 w3 o0 o1 o2 o3 cu rm be st (nI ck) kk aa bb op cc dd r0 re an jj rr pa pr kd (nI s) kc ks (nI nc) (nI nr) (nI nl) (nI nt) (nI ck) (nI bg) ph xs xp xq xg xv xf xl xc xh xw xz (d + 1) bo de dn (nI u + 1) := nxt bo de dn (fun _ _ _ => ⟨rfl, rfl, rfl⟩)
      have hset : ∀ (x : Int64) i, i < 64 → i ≠ u → pb_g (x ||| ((1 : Int64) <<< ((nI u).toInt64 &&& 63))) i = pb_g x i := fun x i l ne => by
        rw [pb_set x (by omega) l]
        simp [ne]
      have hsetu : ∀ (x : Int64), pb_g (x ||| ((1 : Int64) <<< ((nI u).toInt64 &&& 63))) u = true := fun x => by
        rw [pb_set x (by omega) (by omega)]
        simp
      have sta : lw_sta nr S P yf yg bo de dn rm kd an s rr pr pa t := (hst t lt).elim Or.inl (fun y => y.2)
      refine br_f (tf bu) ?_
      rw [← eS]
      refine px_fate H lt (fun f3 => ?_) (fun f2 => ?_) (fun f3 f2 => ?_)
      · -- committed
        have p1 := hTP t lt
        have p0 := hT3 t lt f3
        refine br_f (nI_nlt (b := 1) (by omega) (by omega)) (br_f (nI_nlt (by omega) (by omega)) ?_)
        rw [lw_p1 (by omega), lw_s3 (by omega), lw_a7 (by omega)]
        refine lw_sel (by omega) (lw_at (by omega) ?_)
        have eo : pb_f (lw_W o0 o1 o2 o3 ((P t - 1) / 8)) (8 * ((P t - 1) % 8)) 8 = S t := iOO.1 t lt p0
        rw [eo]
        refine br_t rfl ?_
        rw [eS]
        unfold wL_law_1112
        have n0 : ¬ nI (P t) = 0 := nI_ne0 (by omega) (by omega)
        have n1 : ¬ nI (P t) = -1 := pl_ne1 (by omega)
        rcases sta with k | ⟨y, _⟩ | ⟨y, _⟩ | ⟨_, ⟨b1, b2, b3⟩, e4, e0, eSs, er, ep, hr⟩
        · have b3 : pb_g dn u = true := by
            rcases k with ⟨y, _⟩ | ⟨y, _⟩ | ⟨_, y⟩ | ⟨y, _⟩
            · rw [y] at f3; exact absurd f3 (by decide)
            · rw [y] at f3; exact absurd f3 (by decide)
            · rw [← eS]; exact y.2.2
            · rw [y] at f3; exact absurd f3 (by decide)
          exact br_f (tf b3) (br_f (by decide) (nm_e (same k)))
        · rw [y] at f3; exact absurd f3 (by decide)
        · rw [y] at f3; exact absurd f3 (by decide)
        · rw [eS] at b1 b2 b3
          refine br_t ((tb _).mpr b3) (br_t ((tb _).mpr b2) (br_f (tf b1) (br_f n1 (br_f n0 (br_f (by decide) (br_t e4 (br_t e0 (br_t (by rw [← eSs, eS]) (br_t er (br_t ep (nm_e ⟨nr + 1, ?_⟩)))))))))))
          have k0 := lw_1309 (L := L) (post := post) (xs0 := xs0) (J98 := J98) (J197 := J197) (w0 := w0) (w1 := w1) (w2 := w2) (w3 := w3) (o0 := o0) (o1 := o1) (o2 := o2) (o3 := o3) (cu := cu) (be := be) (st := st) (nc := nc) (nl := nl) (nt := nt) (ck := ck) (bg := bg) (ph := ph) (xs := xs) (xp := xp) (xq := xq) (xg := xg) (xv := xv) (xf := xf) (xl := xl) (xc := xc) (xh := xh) (xw := xw) (xz := xz) (kk := kk) (aa := aa) (bb := bb) (op := op) (cc := cc) (dd := dd) (r0 := r0) (re := re) (an := an) (jj := jj) (rr := rr) (pa := pa) (pr := pr) (kd := kd) (s := s) (kc := kc) (ks := ks) (bo := bo) (de := de) (dn := dn ||| ((1 : Int64) <<< ((nI u).toInt64 &&& 63))) (u := u) (t := t) (P := P) (yg := yg) (rm := rm) i2 h1 (by omega) (by omega) (fun i li => by rw [← eS]; exact (iWW.1 i t li lt).1) hr (nxt bo de _ (fun i li ne => ⟨rfl, rfl, hset dn i li ne⟩) (Or.inr (Or.inr (Or.inl ⟨f3, by rw [eS]; exact b1, by rw [eS]; exact b2, by rw [eS]; exact hsetu dn⟩)))) nr 0 (by omega)
          rw [nI_0] at k0
          exact k0
      · -- pending
        refine br_t (by decide) ?_
        rw [eS]
        unfold wL_law_1111 wL_law_1112
        rcases sta with k | ⟨_, ⟨b1, b2, b3⟩, e2, e0, eSs⟩ | ⟨y, _⟩ | ⟨y, _⟩
        · have b : pb_g bo u = true ∧ pb_g de u = false ∧ pb_g dn u = false := by
            rcases k with ⟨y, _⟩ | ⟨_, y⟩ | ⟨y, _⟩ | ⟨y, _⟩
            · rw [y] at f2; exact absurd f2 (by decide)
            · rw [← eS]; exact y
            · rw [y] at f2; exact absurd f2 (by decide)
            · rw [y] at f2; exact absurd f2 (by decide)
          exact br_t ((tb _).mpr b.2.2) (br_t ((tb _).mpr b.2.1) (br_f (tf b.1) (br_f (by decide) (br_t rfl (nm_e (same k))))))
        · rw [eS] at b1 b2 b3
          refine br_t ((tb _).mpr b3) (br_t ((tb _).mpr b2) (br_t ((tb _).mpr b1) (br_t rfl (br_t e2 (br_t e0 (br_t (by rw [← eSs, eS]) (nm_e (nm_e ?_))))))))
          exact nxt _ de dn (fun i li ne => ⟨hset bo i li ne, rfl, rfl⟩) (Or.inr (Or.inl ⟨f2, by rw [eS]; exact hsetu bo, by rw [eS]; exact b2, by rw [eS]; exact b3⟩))
        · rw [y] at f2; exact absurd f2 (by decide)
        · rw [y] at f2; exact absurd f2 (by decide)
      · -- not born yet, or rolled back
        refine br_t (by decide) ?_
        rw [eS]
        unfold wL_law_1111 wL_law_1112
        rcases sta with k | ⟨y, _⟩ | ⟨f4, ⟨b1, b2, b3⟩, hd⟩ | ⟨y, _⟩
        · rcases k with ⟨y1, y⟩ | ⟨y, _⟩ | ⟨y, _⟩ | ⟨y4, y⟩
          · have k := same (Or.inl ⟨y1, y⟩)
            obtain ⟨b1, b2, b3⟩ := y
            rw [eS] at b1 b2 b3
            exact br_t ((tb _).mpr b3) (br_t ((tb _).mpr b2) (br_t ((tb _).mpr b1) (br_f (by decide) (br_t rfl (nm_e k)))))
          · exact absurd y f2
          · exact absurd y f3
          · have k := same (Or.inr (Or.inr (Or.inr ⟨y4, y⟩)))
            obtain ⟨b1, b2, b3⟩ := y
            rw [eS] at b1 b2 b3
            exact br_t ((tb _).mpr b3) (br_f (tf b2) (br_t rfl (nm_e k)))
        · exact absurd y f2
        · rw [eS] at b1 b2 b3 hd
          have k := nxt bo (de ||| ((1 : Int64) <<< ((nI u).toInt64 &&& 63))) dn (fun i li ne => ⟨rfl, hset de i li ne, rfl⟩) (Or.inr (Or.inr (Or.inr ⟨f4, by rw [eS]; exact b1, by rw [eS]; exact hsetu de, by rw [eS]; exact b3⟩)))
          refine br_t ((tb _).mpr b3) (br_t ((tb _).mpr b2) (br_f (tf b1) (br_t rfl ?_)))
          rcases hd with ⟨e9, es⟩ | ⟨e25, es⟩
          · exact br_t e9 (br_t (by rw [es]) (nm_e (nm_e k)))
          · have ne : ¬ nI u = nI s := fun y => es (pl_im y (by omega) (by omega))
            unfold wL_law_1237
            rcases e25 with e2 | e5
            · exact br_f (by rw [e2]; decide) (br_t e2 (br_f ne (nm_e (nm_e k))))
            · exact br_f (by rw [e5]; decide) (br_f (by rw [e5]; decide) (br_t e5 (br_f ne (nm_e (nm_e k)))))
        · exact absurd y f3
    · have bf : pb_g be u = false := by
        cases h : pb_g be u with
        | true => exact absurd h bu
        | false => rfl
      refine br_t ((pb_tst be (by omega)).mpr bf) (nm_r (nI_1 u) ?_)
      refine ih (u + 1) bo de dn (by omega) (by omega) (fun t lt => ?_) hF
      rcases hst t lt with y | ⟨y1, y2⟩
      · exact Or.inl y
      · have ne : S t ≠ u := fun e => bu ((iB u (by omega)).mpr ⟨t, lt, e⟩)
        exact Or.inr ⟨by omega, y2⟩
end LWC
end
section
section LWD
variable {nc nr nl nt ck bg : Nat} {S P M : Nat → Nat} {ph xs xp xq xg xv xf xl xc xh xw xz ym yf ys yp yq yl yg yv : Nat → Int32}
variable {w0 w1 w2 w3 o0 o1 o2 o3 cu rm be st : Int64}
theorem lw_i_idle {c : Nat} (HI : lw_I nc nr nt ck bg S P M yf yg yv w0 w1 w2 w3 o0 o1 o2 o3 cu rm be st) : lw_I nc nr nt ck bg S P (pl_nu M c 0) yf yg yv w0 w1 w2 w3 o0 o1 o2 o3 cu rm be st := by
  obtain ⟨i1, i2, i3, iB, iST, iCU, iWW, iOO, iRM, iK⟩ := HI
  refine ⟨i1, i2, i3, iB, iST, ?_, iWW, iOO, iRM, iK⟩
  intro c' t hc h
  by_cases e : c' = c
  · rw [e, pl_ns] at h; omega
  · rw [pl_nn e] at h; exact iCU c' t hc h
theorem lw_i_fate {t : Nat} {y : Int32} (HI : lw_I nc nr nt ck bg S P M yf yg yv w0 w1 w2 w3 o0 o1 o2 o3 cu rm be st) (hf : yf t = 2 ∨ P t = 0) (hy : y = 2 ∨ y = 3 ∨ y = 4) (h2 : y = 2 → P t = 0) (h3 : ¬ yf t = 3) : lw_I nc nr nt ck bg S P M (upd yf t y) yg yv w0 w1 w2 w3 o0 o1 o2 o3 cu rm be st := by
  obtain ⟨i1, i2, i3, iB, iST, iCU, iWW, iOO, iRM, iK⟩ := HI
  refine ⟨i1, i2, i3, iB, iST, iCU, iWW, iOO, ?_, ?_⟩
  · intro r hr
    refine ⟨(iRM r hr).1, fun q lq f p g => ?_⟩
    by_cases e : q = t
    · rw [e, pl_us] at f
      rw [e] at p
      exact absurd (h2 f) p
    · rw [pl_un e] at f
      exact (iRM r hr).2 q lq f p g
  · intro q lq
    obtain ⟨k1, k2, k3, k4⟩ := iK q lq
    by_cases e : q = t
    · subst e
      rw [pl_us]
      refine ⟨Or.inr hy, k2, fun r hr _ => k3 r hr h3, fun f p => ?_⟩
      exact absurd (h2 f) p
    · rw [pl_un e]
      exact ⟨k1, k2, k3, k4⟩
theorem lw_i_beg (H : pl_R nc nr nl nt ck bg S P M ph xs xp xq xg xv xf xl xc xh xw xz ym yf ys yp yq yl yg yv) {c : Nat} (hc : c < nc) (hbt : bg < nt) (HI : lw_I nc nr nt ck bg S P M yf yg yv w0 w1 w2 w3 o0 o1 o2 o3 cu rm be st) : lw_I nc nr nt (ck + 1) (bg + 1) (pl_nu S bg (ck + 1)) P (pl_nu M c (bg + 1)) (upd yf bg 1) yg yv w0 w1 w2 w3 o0 o1 o2 o3 (pb_put cu (8 * c) 8 (ck + 1)) rm (be ||| ((1 : Int64) <<< ((nI (ck + 1)).toInt64 &&& 63))) st := by
  have hb := pl_b H
  obtain ⟨i1, i2, i3, iB, iST, iCU, iWW, iOO, iRM, iK⟩ := HI
  obtain ⟨n1, n2, n3⟩ := H.2.2.2.2.2.1 bg (Nat.le_refl bg) (by omega)
  have hTS : ∀ t, t < bg → ys t = nI (S t) ∧ 1 ≤ S t ∧ S t ≤ ck := H.2.1
  have hCA := H.2.2.2.2.2.2.2.2.2.1
  have hSo : ∀ q, q < bg → pl_nu S bg (ck + 1) q = S q := fun q hq => pl_nn (by omega)
  refine ⟨i1, i2, i3, ?_, ?_, ?_, ?_, ?_, ?_, ?_⟩
  · intro s hs
    rw [pb_set _ (by omega) hs]
    by_cases e : s = ck + 1
    · subst e
      simp only [decide_true, Bool.or_true, true_iff]
      exact ⟨bg, by omega, pl_ns⟩
    · simp only [e, decide_false, Bool.or_false]
      rw [iB s hs]
      constructor
      · intro ⟨t, lt, h⟩
        exact ⟨t, by omega, by rw [hSo t lt]; exact h⟩
      · intro ⟨t, lt, h⟩
        by_cases z : t = bg
        · rw [z, pl_ns] at h; omega
        · rw [pl_nn z] at h; exact ⟨t, by omega, h⟩
  · refine ⟨fun t lt => ?_, fun s l1 l2 => iST.2 s (by omega) l2⟩
    by_cases z : t = bg
    · rw [z, pl_ns, iST.2 (ck + 1) (by omega) (by omega)]
      constructor
      · intro h; exact absurd h (by decide)
      · intro h; exact absurd n2 h
    · rw [pl_nn z]
      exact iST.1 t (by omega)
  · intro c' t hc' h
    by_cases e : c' = c
    · rw [e, pl_ns] at h
      have et : t = bg := by omega
      rw [e, et, pl_ns]
      exact pb_ps (by decide) (by omega) (by omega) (by decide)
    · rw [pl_nn e] at h
      have lt := (hCA c' t (by omega) h).1
      rw [hSo t lt, pb_pn (by decide) (by omega) (by omega) (by decide) (by omega) (by omega)]
      exact iCU c' t hc' h
  · refine ⟨fun r t hr lt => ?_, fun r s hr l1 l2 => iWW.2 r s hr (by omega) l2⟩
    by_cases z : t = bg
    · subst z
      rw [pl_ns, iWW.2 r (ck + 1) hr (by omega) (by omega), n3 r (by omega)]
      exact ⟨⟨fun _ => rfl, fun _ => rfl⟩, fun y => absurd rfl y⟩
    · rw [pl_nn z]
      exact iWW.1 r t hr (by omega)
  · refine ⟨fun t lt p => ?_, fun p l1 l2 h => ?_⟩
    · by_cases z : t = bg
      · rw [z] at p; exact absurd n2 p
      · rw [pl_nn z]; exact iOO.1 t (by omega) p
    · obtain ⟨t, lt, e⟩ := iOO.2 p l1 l2 h
      exact ⟨t, by omega, e⟩
  · intro r hr
    refine ⟨by have := (iRM r hr).1; omega, fun t lt f p g => ?_⟩
    by_cases z : t = bg
    · rw [z] at p; exact absurd n2 p
    · rw [pl_un z] at f; exact (iRM r hr).2 t (by omega) f p g
  · intro t lt
    by_cases z : t = bg
    · subst z
      rw [pl_us]
      refine ⟨Or.inl rfl, fun p => absurd n2 p, fun r hr _ => Or.inl (n3 r hr), fun f => absurd f (by decide)⟩
    · rw [pl_un z, pl_nn z]
      exact iK t (by omega)
theorem lw_i_put (H : pl_R nc nr nl nt ck bg S P M ph xs xp xq xg xv xf xl xc xh xw xz ym yf ys yp yq yl yg yv) {c t r q : Nat} {w0' w1' w2' w3' : Int64} (hc : c < nc) (hm : M c = t + 1) (hf : yf t = 1) (hr : r < nr) (q1 : 1 ≤ q) (q3 : q ≤ 3)
    (hW : ∀ r', r' < 4 → lw_W w0' w1' w2' w3' r' = if r' = r then pb_put (lw_W w0 w1 w2 w3 r) (2 * (S t - 1)) 2 q else lw_W w0 w1 w2 w3 r') (HI : lw_I nc nr nt ck bg S P M yf yg yv w0 w1 w2 w3 o0 o1 o2 o3 cu rm be st) :
    lw_I nc nr nt ck bg S P M yf (upd yg (t * 8 + r) 1) (upd yv (t * 8 + r) (lw_v q (S t) r)) w0' w1' w2' w3' o0 o1 o2 o3 cu rm be st := by
  have hb := pl_b H
  obtain ⟨i1, i2, i3, iB, iST, iCU, iWW, iOO, iRM, iK⟩ := HI
  have hTS : ∀ t, t < bg → ys t = nI (S t) ∧ 1 ≤ S t ∧ S t ≤ ck := H.2.1
  have lt : t < bg := (H.2.2.2.2.2.2.2.2.2.1 c t (by omega) hm).1
  have sS := hTS t lt
  have fld : ∀ r' s', r' < nr → 1 ≤ s' → s' ≤ 32 → (r' ≠ r ∨ s' ≠ S t) → pb_f (lw_W w0' w1' w2' w3' r') (2 * (s' - 1)) 2 = pb_f (lw_W w0 w1 w2 w3 r') (2 * (s' - 1)) 2 := by
    intro r' s' l1 l2 l3 h
    rw [hW r' (by omega)]
    by_cases e : r' = r
    · rw [if_pos e, e]
      exact pb_pn (by decide) (by omega) (by omega) (by decide) (by omega) (by omega)
    · rw [if_neg e]
  have here : pb_f (lw_W w0' w1' w2' w3' r) (2 * (S t - 1)) 2 = q := by
    rw [hW r (by omega), if_pos rfl]
    exact pb_ps (by decide) (by omega) (by omega) (by decide)
  refine ⟨i1, i2, i3, iB, iST, iCU, ?_, iOO, ?_, ?_⟩
  · refine ⟨fun r' t' hr' lt' => ?_, fun r' s' hr' l1 l2 => ?_⟩
    · have sS' := hTS t' lt'
      by_cases e : r' = r ∧ t' = t
      · obtain ⟨e1, e2⟩ := e
        subst e1
        subst e2
        rw [here, pl_us, pl_us]
        exact ⟨⟨fun y => by omega, fun y => absurd y (by decide)⟩, fun _ => rfl⟩
      · have ne : t' * 8 + r' ≠ t * 8 + r := by omega
        have hd : r' ≠ r ∨ S t' ≠ S t := by
          by_cases e1 : r' = r
          · exact Or.inr (pl_Sj H.2.2.1 lt' lt (fun e2 => e ⟨e1, e2⟩))
          · exact Or.inl e1
        rw [fld r' (S t') hr' (by omega) (by omega) hd, pl_un ne, pl_un ne]
        exact iWW.1 r' t' hr' lt'
    · rw [fld r' s' hr' (by omega) l2 (Or.inr (by omega))]
      exact iWW.2 r' s' hr' l1 l2
  · intro r' hr'
    refine ⟨(iRM r' hr').1, fun t' lt' f p g => ?_⟩
    have ne : t' ≠ t := fun e => by rw [e, hf] at f; exact absurd f (by decide)
    rw [pl_un (by omega)] at g
    exact (iRM r' hr').2 t' lt' f p g
  · intro t' lt'
    obtain ⟨k1, k2, k3, k4⟩ := iK t' lt'
    refine ⟨k1, k2, fun r' hr' f => ?_, fun f p r' hr' => ?_⟩
    · by_cases e : t' * 8 + r' = t * 8 + r
      · rw [e, pl_us]; exact Or.inr (Or.inl rfl)
      · rw [pl_un e]; exact k3 r' hr' f
    · have ne : t' ≠ t := fun e => by rw [e, hf] at f; exact absurd f (by decide)
      rw [pl_un (by omega)]
      exact k4 f p r' hr'
theorem lw_i_stg (H : pl_R nc nr nl nt ck bg S P M ph xs xp xq xg xv xf xl xc xh xw xz ym yf ys yp yq yl yg yv) {c t r : Nat} {x : Int32} (hc : c < nc) (hm : M c = t + 1) (hr : r < nr) (hg : ¬ yg (t * 8 + r) = 0) (hp : yf t = 2 → P t = 0) (hx : x = 2 ∨ (x = 3 ∧ yf t = 3)) (HI : lw_I nc nr nt ck bg S P M yf yg yv w0 w1 w2 w3 o0 o1 o2 o3 cu rm be st) :
    lw_I nc nr nt ck bg S P M yf (upd yg (t * 8 + r) x) yv w0 w1 w2 w3 o0 o1 o2 o3 cu rm be st := by
  have hb := pl_b H
  obtain ⟨i1, i2, i3, iB, iST, iCU, iWW, iOO, iRM, iK⟩ := HI
  have hx0 : ¬ x = 0 := by
    rcases hx with y | y
    · rw [y]; decide
    · rw [y.1]; decide
  have g0 : ∀ j, (upd yg (t * 8 + r) x j = 0 ↔ yg j = 0) := by
    intro j
    by_cases e : j = t * 8 + r
    · rw [e, pl_us]; exact ⟨fun y => absurd y hx0, fun y => absurd y hg⟩
    · rw [pl_un e]
  refine ⟨i1, i2, i3, iB, iST, iCU, ?_, iOO, ?_, ?_⟩
  · refine ⟨fun r' t' hr' lt' => ?_, iWW.2⟩
    rw [g0]
    exact iWW.1 r' t' hr' lt'
  · intro r' hr'
    refine ⟨(iRM r' hr').1, fun t' lt' f p g => ?_⟩
    exact (iRM r' hr').2 t' lt' f p (fun y => g ((g0 _).mpr y))
  · intro t' lt'
    obtain ⟨k1, k2, k3, k4⟩ := iK t' lt'
    refine ⟨k1, k2, fun r' hr' f => ?_, fun f p r' hr' => ?_⟩
    · by_cases e : t' * 8 + r' = t * 8 + r
      · rw [e, pl_us]
        rcases hx with y | y
        · exact Or.inr (Or.inr y)
        · have e2 : t' = t := by omega
          rw [e2] at f
          exact absurd y.2 f
      · rw [pl_un e]; exact k3 r' hr' f
    · by_cases e : t' = t
      · rw [e] at f p
        exact absurd (hp f) p
      · rw [pl_un (by omega)]
        exact k4 f p r' hr'
theorem lw_i_stamp (H : pl_R nc nr nl nt ck bg S P M ph xs xp xq xg xv xf xl xc xh xw xz ym yf ys yp yq yl yg yv) {c t : Nat} {o0' o1' o2' o3' : Int64} (hc : c < nc) (hm : M c = t + 1) (hP : P t = 0) (h32 : ck + 1 ≤ 32) (hf3 : ¬ yf t = 3) (hg : ∀ r, r < 8 → ¬ yg (t * 8 + r) = 1)
    (hO : ∀ g, g < 4 → lw_W o0' o1' o2' o3' g = if g = ck / 8 then pb_put (lw_W o0 o1 o2 o3 (ck / 8)) (8 * (ck % 8)) 8 (S t) else lw_W o0 o1 o2 o3 g) (HI : lw_I nc nr nt ck bg S P M yf yg yv w0 w1 w2 w3 o0 o1 o2 o3 cu rm be st) :
    lw_I nc nr nt (ck + 1) bg S (pl_nu P t (ck + 1)) M yf yg yv w0 w1 w2 w3 o0' o1' o2' o3' cu rm be (st ||| ((1 : Int64) <<< ((nI (S t)).toInt64 &&& 63))) := by
  have hb := pl_b H
  obtain ⟨i1, i2, i3, iB, iST, iCU, iWW, iOO, iRM, iK⟩ := HI
  have hTS : ∀ t, t < bg → ys t = nI (S t) ∧ 1 ≤ S t ∧ S t ≤ ck := H.2.1
  have hTP : ∀ t, t < bg → yp t = nI (P t) ∧ P t ≤ ck := fun t ht => H.2.2.2.1 t (by omega)
  have lt : t < bg := (H.2.2.2.2.2.2.2.2.2.1 c t (by omega) hm).1
  have sS := hTS t lt
  have here : lw_O (lw_W o0' o1' o2' o3') (ck + 1) = S t := by
    unfold lw_O
    rw [show ck + 1 - 1 = ck by omega, hO (ck / 8) (by omega), if_pos rfl]
    exact pb_ps (by decide) (by omega) (by omega) (by decide)
  have there : ∀ p, 1 ≤ p → p ≤ 32 → p ≠ ck + 1 → lw_O (lw_W o0' o1' o2' o3') p = lw_O (lw_W o0 o1 o2 o3) p := by
    intro p l1 l2 ne
    unfold lw_O
    rw [hO ((p - 1) / 8) (by omega)]
    by_cases e : (p - 1) / 8 = ck / 8
    · rw [if_pos e, e]
      exact pb_pn (by decide) (by omega) (by omega) (by decide) (by omega) (by omega)
    · rw [if_neg e]
  refine ⟨i1, i2, i3, iB, ?_, iCU, ⟨iWW.1, fun r s hr l1 l2 => iWW.2 r s hr (by omega) l2⟩, ?_, ?_, ?_⟩
  · refine ⟨fun q lq => ?_, fun s l1 l2 => ?_⟩
    · have sq := hTS q lq
      rw [pb_set _ (by omega) (by omega)]
      by_cases e : q = t
      · subst e
        rw [pl_ns]
        simp
      · have ne := pl_Sj H.2.2.1 lq lt e
        rw [pl_nn e]
        simp only [ne, decide_false, Bool.or_false]
        exact iST.1 q lq
    · rw [pb_set _ (by omega) l2]
      have ne : ¬ s = S t := by omega
      simp only [ne, decide_false, Bool.or_false]
      exact iST.2 s (by omega) l2
  · refine ⟨fun q lq p => ?_, fun p l1 l2 h => ?_⟩
    · by_cases e : q = t
      · rw [e, pl_ns]; exact here
      · rw [pl_nn e] at p ⊢
        have := (hTP q lq).2
        rw [there (P q) (by omega) (by omega) (by omega)]
        exact iOO.1 q lq p
    · by_cases e : p = ck + 1
      · exact ⟨t, lt, by rw [pl_ns]; exact e.symm⟩
      · rw [there p l1 l2 e] at h
        obtain ⟨q, lq, eq⟩ := iOO.2 p l1 l2 h
        have ne : q ≠ t := fun z => by rw [z, hP] at eq; omega
        exact ⟨q, lq, by rw [pl_nn ne]; exact eq⟩
  · intro r hr
    have r1 := iRM r hr
    refine ⟨by omega, fun q lq f p g => ?_⟩
    by_cases e : q = t
    · rw [e, pl_ns]; omega
    · rw [pl_nn e] at p ⊢
      exact r1.2 q lq f p g
  · intro q lq
    obtain ⟨k1, k2, k3, k4⟩ := iK q lq
    by_cases e : q = t
    · subst e
      rw [pl_ns]
      refine ⟨k1, fun _ => by omega, k3, fun f _ r hr => ?_⟩
      rcases k3 r hr hf3 with y | y | y
      · exact Or.inl y
      · exact absurd y (hg r hr)
      · exact Or.inr y
    · rw [pl_nn e]
      exact ⟨k1, k2, k3, k4⟩
theorem lw_i_rm {r v : Nat} (hr : r < nr) (hv : v ≤ ck) (hv2 : v < 256) (h : ∀ t, t < bg → yf t = 2 → P t ≠ 0 → yg (t * 8 + r) ≠ 0 → v < P t) (HI : lw_I nc nr nt ck bg S P M yf yg yv w0 w1 w2 w3 o0 o1 o2 o3 cu rm be st) :
    lw_I nc nr nt ck bg S P M yf yg yv w0 w1 w2 w3 o0 o1 o2 o3 cu (pb_put rm (8 * r) 8 v) be st := by
  obtain ⟨i1, i2, i3, iB, iST, iCU, iWW, iOO, iRM, iK⟩ := HI
  refine ⟨i1, i2, i3, iB, iST, iCU, iWW, iOO, ?_, iK⟩
  intro r' hr'
  by_cases e : r' = r
  · rw [e, pb_ps (by decide) (by omega) hv2 (by decide)]
    exact ⟨hv, h⟩
  · rw [pb_pn (by decide) (by omega) hv2 (by decide) (by omega) (by omega)]
    exact iRM r' hr'
end LWD
end
section
section LWE
variable {nc nr nl nt ck bg : Nat} {S P M : Nat → Nat} {ph xs xp xq xg xv xf xl xc xh xw xz ym yf ys yp yq yl yg yv : Nat → Int32}
variable {w0 w1 w2 w3 o0 o1 o2 o3 cu rm be bo de dn st : Int64} {kk aa bb op cc dd r0 re an jj rr pa pr kd : Int32} {kc ks L s : Nat} {xs0 : Nat → Int32} {post : Int32 → Prop} {J98 : lw_T98} {J197 : lw_T197}
/-- the state at the head of a round of the inner loop -/
def lw_Jv (nc nr : Nat) (w0 w1 w2 w3 o0 o1 o2 o3 cu rm be bo de dn st : Int64) (la f0 f1 f2 f3 f4 f5 : Int32) (ph xs xp xq xg xv xf xl xc xh xw xz : Nat → Int32) : Prop :=
  ∃ (nl nt ck bg : Nat) (S P M : Nat → Nat) (ym yf ys yp yq yl yg yv : Nat → Int32), la = nI ck ∧ f0 = nI nc ∧ f1 = nI nr ∧ f2 = nI nl ∧ f3 = nI nt ∧ f4 = nI ck ∧ f5 = nI bg ∧ pl_R nc nr nl nt ck bg S P M ph xs xp xq xg xv xf xl xc xh xw xz ym yf ys yp yq yl yg yv ∧ lw_I nc nr nt ck bg S P M yf yg yv w0 w1 w2 w3 o0 o1 o2 o3 cu rm be st ∧ (∀ t, t < bg → lw_kp S yf bo de dn t) ∧ lw_F ck bo de dn
theorem lw_jm (H : pl_R nc nr nl nt ck bg S P M ph xs xp xq xg xv xf xl xc xh xw xz ym yf ys yp yq yl yg yv) (HI : lw_I nc nr nt ck bg S P M yf yg yv w0 w1 w2 w3 o0 o1 o2 o3 cu rm be st) (kp : ∀ t, t < bg → lw_kp S yf bo de dn t) (hF : lw_F ck bo de dn) : lw_Jv nc nr w0 w1 w2 w3 o0 o1 o2 o3 cu rm be bo de dn st (nI ck) (nI nc) (nI nr) (nI nl) (nI nt) (nI ck) (nI bg) ph xs xp xq xg xv xf xl xc xh xw xz :=
  ⟨nl, nt, ck, bg, S, P, M, ym, yf, ys, yp, yq, yl, yg, yv, rfl, rfl, rfl, rfl, rfl, rfl, rfl, H, HI, kp, hF⟩
def lw_HJ (nc nr : Nat) (jj : Int32) (J197 : lw_T197) : Prop :=
  ∀ (w0 w1 w2 w3 o0 o1 o2 o3 cu rm be bo de dn st : Int64) (la an f0 f1 f2 f3 f4 f5 : Int32) (ph xs xp xq xg xv xf xl xc xh xw xz : Nat → Int32), lw_Jv nc nr w0 w1 w2 w3 o0 o1 o2 o3 cu rm be bo de dn st la f0 f1 f2 f3 f4 f5 ph xs xp xq xg xv xf xl xc xh xw xz → J197 w0 w1 w2 w3 o0 o1 o2 o3 cu rm be bo de dn st la an (jj + 1) f0 f1 f2 f3 f4 f5 ph xs xp xq xg xv xf xl xc xh xw xz
/-- behind the call: the checks, and on to the next round -/
theorem lw_go (H : pl_R nc nr nl nt ck bg S P M ph xs xp xq xg xv xf xl xc xh xw xz ym yf ys yp yq yl yg yv) (HI : lw_I nc nr nt ck bg S P M yf yg yv w0 w1 w2 w3 o0 o1 o2 o3 cu rm be st) (hJ : lw_HJ nc nr jj J197) (hs : s < 256)
    (hst : ∀ t, t < bg → lw_sta nr S P yf yg bo de dn rm kd an s rr pr pa t) (hF : lw_F ck bo de dn)
    (hC : kd = 4 → an = 0 → ∃ t, t < bg ∧ S t = s ∧ yf t = 3) (hD : an = -11 → ∃ t, t < bg ∧ S t = s ∧ yf t = 4) : ∃ n, wL_law_1027 post L xs0 J98 J197 (nI nc) (nI nr) w0 w1 w2 w3 o0 o1 o2 o3 cu rm be st (nI ck) kk aa bb op cc dd r0 re an jj rr pa pr kd (nI s) kc ks (nI nc) (nI nr) (nI nl) (nI nt) (nI ck) (nI bg) ph xs xp xq xg xv xf xl xc xh xw xz n bo de dn 1 := by
  refine ⟨ck + 1, ?_⟩
  exact lw_fl H HI hs hC hD (fun bo de dn kp hF => hJ _ _ _ _ _ _ _ _ _ _ _ _ _ _ _ _ _ _ _ _ _ _ _ _ _ _ _ _ _ _ _ _ _ _ _ (lw_jm H HI kp hF)) ck 1 bo de dn (by omega) (Nat.le_refl 1) (fun t lt => Or.inr ⟨(H.2.1 t lt).2.1, hst t lt⟩) hF
theorem lw_same (H : pl_R nc nr nl nt ck bg S P M ph xs xp xq xg xv xf xl xc xh xw xz ym yf ys yp yq yl yg yv) (HI : lw_I nc nr nt ck bg S P M yf yg yv w0 w1 w2 w3 o0 o1 o2 o3 cu rm be st) (hJ : lw_HJ nc nr jj J197) (hs : s < 256)
    (kp : ∀ t, t < bg → lw_kp S yf bo de dn t) (hF : lw_F ck bo de dn) (h4 : kd = 4 → ¬ an = 0) (h11 : ¬ an = -11) : ∃ n, wL_law_1027 post L xs0 J98 J197 (nI nc) (nI nr) w0 w1 w2 w3 o0 o1 o2 o3 cu rm be st (nI ck) kk aa bb op cc dd r0 re an jj rr pa pr kd (nI s) kc ks (nI nc) (nI nr) (nI nl) (nI nt) (nI ck) (nI bg) ph xs xp xq xg xv xf xl xc xh xw xz n bo de dn 1 :=
  lw_go H HI hJ hs (fun t lt => Or.inl (kp t lt)) hF (fun a b => absurd b (h4 a)) (fun a => absurd a h11)
theorem lw_neg : ((-2 : Int32) ≤ 0) ∧ ((-3 : Int32) ≤ 0) ∧ ((-4 : Int32) ≤ 0) ∧ ((-5 : Int32) ≤ 0) ∧ ((-6 : Int32) ≤ 0) ∧ ((-2 : Int32) < -1) ∧ ((-3 : Int32) < -1) ∧ ((-9 : Int32) < -1) ∧ (¬ (-2 : Int32) = 0) ∧ (¬ (-3 : Int32) = 0) := by decide
theorem lw_sb (x : Int64) (k : Nat) : pb_f x k 8 < 256 := pb_fl x k 8
/-! begin -/
theorem lw_k0 (H : pl_R nc nr nl nt ck bg S P M ph xs xp xq xg xv xf xl xc xh xw xz ym yf ys yp yq yl yg yv) (HI : lw_I nc nr nt ck bg S P M yf yg yv w0 w1 w2 w3 o0 o1 o2 o3 cu rm be st) (kp : ∀ t, t < bg → lw_kp S yf bo de dn t) (hF : lw_F ck bo de dn) (hJ : lw_HJ nc nr jj J197) {c : Nat} (hc : c < nc) : wL_law_465 post L xs0 J98 J197 (nI nc) (nI nr) w0 w1 w2 w3 o0 o1 o2 o3 cu rm be bo de dn st (nI ck) kk aa bb op (nI c) dd r0 re jj rr pa pr 0 kc ks (nI nc) (nI nr) (nI nl) (nI nt) (nI ck) (nI bg) ph xs xp xq xg xv xf xl xc xh xw xz := by
  have hb := pl_b H
  have hc' : ¬ nc ≤ c := by omega
  have i16 := HI.2.2.1
  unfold wL_law_465
  refine lw_at (by omega) (br_t rfl ?_)
  rcases pl_cl H (c := c) (by omega) with ⟨m0, p0, _⟩ | ⟨t, m1, lt, p0, _⟩
  · by_cases l : bg < nt
    · have H' := pl_beg H (c := c) (by omega) m0 l
      have hb' := pl_b H'
      have HI' := lw_i_beg H hc l HI
      have q1 : ¬ nI (ck + 1) ≤ 0 := nI_nle (by omega) (by omega)
      have q2 : ¬ ck + 1 ≤ ck := by omega
      have q3 : nI (ck + 1) ≤ (32 : Int32) := nI_le (b := 32) (by omega) (by decide)
      simp (disch := omega) only [wpX_begin, wpX_isClient, wpX_drawTimestamp, wpX_drawTimestamp_2, hc, hc', p0, l, q1, q2, q3, pl_nq, pl_cc, pl_vc, pl_le8, pl_le32, pl_lt64, pl_lt1, pl_lt8, pl_lt32, nI_pos, nI_pos', vp_in_nI, nI_clamp, nI_1, nI_leI, nI_ltI, nI_eq, forall_eq, true_implies, forall_const, not_true_eq_false, not_false_eq_true, false_implies, and_true, true_and, implies_true, and_self, eq_self]
      refine lw_with (c := c) (v := ck + 1) (by omega) ?_
      refine lw_go H' HI' hJ (by omega) (fun t lt => Or.inl ?_) (fun i l1 l2 => hF i (by omega) l2) (fun a => absurd a (by decide)) (fun a => ?_)
      · unfold lw_kp
        by_cases e : t = bg
        · subst e
          rw [pl_us, pl_ns]
          exact Or.inl ⟨rfl, hF (ck + 1) (by omega) (by omega)⟩
        · rw [pl_un e, pl_nn e]
          exact kp t (by omega)
      · exact absurd (by rw [a]; decide : nI (ck + 1) < 0) (nI_pos (by omega))
    · simp (disch := omega) only [wpX_begin, wpX_isClient, hc, hc', p0, l, lw_neg, pl_nq, pl_cc, pl_vc, pl_le8, pl_le32, pl_lt64, pl_lt1, pl_lt8, pl_lt32, nI_pos, nI_pos', vp_in_nI, nI_clamp, nI_1, nI_leI, nI_ltI, nI_eq, forall_eq, true_implies, forall_const, not_true_eq_false, not_false_eq_true, false_implies, and_true, true_and, implies_true, and_self, eq_self]
      exact lw_same H HI hJ (lw_sb _ _) kp hF (fun a => absurd a (by decide)) (by decide)
  · simp (disch := omega) only [wpX_begin, wpX_isClient, hc, hc', p0, lw_neg, pl_nq, pl_cc, pl_vc, pl_le8, pl_le32, pl_lt64, pl_lt1, pl_lt8, pl_lt32, nI_pos, nI_pos', vp_in_nI, nI_clamp, nI_1, nI_leI, nI_ltI, nI_eq, forall_eq, true_implies, forall_const, not_true_eq_false, not_false_eq_true, false_implies, and_true, true_and, implies_true, and_self, eq_self]
    exact lw_same H HI hJ (lw_sb _ _) kp hF (fun a => absurd a (by decide)) (by decide)
/-! tick -/
theorem lw_k6 (H : pl_R nc nr nl nt ck bg S P M ph xs xp xq xg xv xf xl xc xh xw xz ym yf ys yp yq yl yg yv) (HI : lw_I nc nr nt ck bg S P M yf yg yv w0 w1 w2 w3 o0 o1 o2 o3 cu rm be st) (kp : ∀ t, t < bg → lw_kp S yf bo de dn t) (hF : lw_F ck bo de dn) (hJ : lw_HJ nc nr jj J197) {c : Nat} (hc : c < nc) : wL_law_465 post L xs0 J98 J197 (nI nc) (nI nr) w0 w1 w2 w3 o0 o1 o2 o3 cu rm be bo de dn st (nI ck) kk aa bb op (nI c) dd r0 re jj rr pa pr 6 kc ks (nI nc) (nI nr) (nI nl) (nI nt) (nI ck) (nI bg) ph xs xp xq xg xv xf xl xc xh xw xz := by
  have hb := pl_b H
  have tk : ∀ n : Int32, wL_law_969 post L xs0 J98 J197 (nI nc) (nI nr) w0 w1 w2 w3 o0 o1 o2 o3 cu rm be bo de dn st (nI ck) kk aa bb op (nI c) dd r0 re jj rr pa pr 6 (nI (pb_f cu (8 * c) 8)) n kc ks (nI nc) (nI nr) (nI nl) (nI nt) (nI ck) (nI bg) ph xs xp xq xg xv xf xl xc xh xw xz := by
    intro n
    unfold wL_law_969
    by_cases h : 1 ≤ n
    · refine br_t h ⟨65, ?_⟩
      rw [← pl_xt_1 (n := n) (xf := xf) (xl := xl)]
      refine px_tkl ?_ 64 1 (by decide) (by decide)
      exact lw_go (pl_tick H n) HI hJ (lw_sb _ _) (fun t lt => Or.inl (kp t lt)) hF (fun a => absurd a (by decide)) (fun a => absurd a (by decide))
    · refine br_f h ?_
      exact lw_same H HI hJ (lw_sb _ _) kp hF (fun a => absurd a (by decide)) (by decide)
  unfold wL_law_465
  refine lw_at (by omega) (br_f (by decide) (br_f (by decide) (br_f (by decide) (br_f (by decide) (br_f (by decide) (br_f (by decide) (br_t rfl ?_)))))))
  exact br_c (fun _ => ⟨by decide, tk _⟩) (fun _ => tk _)
/-! heartbeat, crash, abandon -/
theorem lw_k7 (H : pl_R nc nr nl nt ck bg S P M ph xs xp xq xg xv xf xl xc xh xw xz ym yf ys yp yq yl yg yv) (HI : lw_I nc nr nt ck bg S P M yf yg yv w0 w1 w2 w3 o0 o1 o2 o3 cu rm be st) (kp : ∀ t, t < bg → lw_kp S yf bo de dn t) (hF : lw_F ck bo de dn) (hJ : lw_HJ nc nr jj J197) {c : Nat} (hc : c < nc) : wL_law_465 post L xs0 J98 J197 (nI nc) (nI nr) w0 w1 w2 w3 o0 o1 o2 o3 cu rm be bo de dn st (nI ck) kk aa bb op (nI c) dd r0 re jj rr pa pr 7 kc ks (nI nc) (nI nr) (nI nl) (nI nt) (nI ck) (nI bg) ph xs xp xq xg xv xf xl xc xh xw xz := by
  have hb := pl_b H
  have hc' : ¬ nc ≤ c := by omega
  unfold wL_law_465
  refine lw_at (by omega) (br_f (by decide) (br_f (by decide) (br_f (by decide) (br_f (by decide) (br_f (by decide) (br_f (by decide) (br_f (by decide) (br_t rfl ?_))))))))
  rcases pl_cl H (c := c) (by omega) with ⟨m0, p0, _⟩ | ⟨t, m1, lt, p0, em, es, et, l1, l2, ef, _⟩
  · simp (disch := omega) only [wpX_heartbeat, wpX_isClient, hc, hc', p0, pl_nq, pl_cc, pl_vc, pl_le8, pl_le32, pl_lt64, pl_lt1, pl_lt8, pl_lt32, nI_pos, nI_pos', vp_in_nI, nI_clamp, nI_1, nI_leI, nI_ltI, nI_eq, forall_eq, true_implies, forall_const, not_true_eq_false, not_false_eq_true, false_implies, and_true, true_and, implies_true, and_self, eq_self]
    exact lw_same H HI hJ (lw_sb _ _) kp hF (fun a => absurd a (by decide)) (by decide)
  · have eC := HI.2.2.2.2.2.1 c t hc m1
    by_cases p1 : ph c = 1
    · simp (disch := omega) only [wpX_heartbeat, wpX_isClient, hc, hc', p1, pl_nq, pl_cc, pl_vc, pl_le8, pl_le32, pl_lt64, pl_lt1, pl_lt8, pl_lt32, nI_pos, nI_pos', vp_in_nI, nI_clamp, nI_1, nI_leI, nI_ltI, nI_eq, forall_eq, true_implies, forall_const, not_true_eq_false, not_false_eq_true, false_implies, and_true, true_and, implies_true, and_self, eq_self]
      exact lw_same H HI hJ (lw_sb _ _) kp hF (fun a => absurd a (by decide)) (by decide)
    · by_cases p4 : ph c = 4
      · simp (disch := omega) only [wpX_heartbeat, wpX_isClient, hc, hc', p4, pl_nq, pl_cc, pl_vc, pl_le8, pl_le32, pl_lt64, pl_lt1, pl_lt8, pl_lt32, nI_pos, nI_pos', vp_in_nI, nI_clamp, nI_1, nI_leI, nI_ltI, nI_eq, forall_eq, true_implies, forall_const, not_true_eq_false, not_false_eq_true, false_implies, and_true, true_and, implies_true, and_self, eq_self]
        exact lw_same H HI hJ (lw_sb _ _) kp hF (fun a => absurd a (by decide)) (by decide)
      · by_cases f4 : yf t = 4
        · simp (disch := omega) only [wpX_heartbeat, wpX_isClient, hc, hc', p0, p1, p4, es, ef, f4, pl_nq, pl_cc, pl_vc, pl_le8, pl_le32, pl_lt64, pl_lt1, pl_lt8, pl_lt32, nI_pos, nI_pos', vp_in_nI, nI_clamp, nI_1, nI_leI, nI_ltI, nI_eq, forall_eq, true_implies, forall_const, not_true_eq_false, not_false_eq_true, false_implies, and_true, true_and, implies_true, and_self, eq_self]
          exact lw_go H HI hJ (lw_sb _ _) (fun t lt => Or.inl (kp t lt)) hF (fun a => absurd a (by decide)) (fun _ => ⟨t, lt, eC.symm, f4⟩)
        · simp (disch := omega) only [wpX_heartbeat, wpX_isClient, hc, hc', p0, p1, p4, es, ef, f4, pl_nq, pl_cc, pl_vc, pl_le8, pl_le32, pl_lt64, pl_lt1, pl_lt8, pl_lt32, nI_pos, nI_pos', vp_in_nI, nI_clamp, nI_1, nI_leI, nI_ltI, nI_eq, forall_eq, true_implies, forall_const, not_true_eq_false, not_false_eq_true, false_implies, and_true, true_and, implies_true, and_self, eq_self]
          exact lw_go (pl_beat H lt) HI hJ (lw_sb _ _) (fun t lt => Or.inl (kp t lt)) hF (fun a => absurd a (by decide)) (fun a => absurd a (by decide))
theorem lw_k8 (H : pl_R nc nr nl nt ck bg S P M ph xs xp xq xg xv xf xl xc xh xw xz ym yf ys yp yq yl yg yv) (HI : lw_I nc nr nt ck bg S P M yf yg yv w0 w1 w2 w3 o0 o1 o2 o3 cu rm be st) (kp : ∀ t, t < bg → lw_kp S yf bo de dn t) (hF : lw_F ck bo de dn) (hJ : lw_HJ nc nr jj J197) {c : Nat} (hc : c < nc) : wL_law_465 post L xs0 J98 J197 (nI nc) (nI nr) w0 w1 w2 w3 o0 o1 o2 o3 cu rm be bo de dn st (nI ck) kk aa bb op (nI c) dd r0 re jj rr pa pr 8 kc ks (nI nc) (nI nr) (nI nl) (nI nt) (nI ck) (nI bg) ph xs xp xq xg xv xf xl xc xh xw xz := by
  have hb := pl_b H
  have hc' : ¬ nc ≤ c := by omega
  unfold wL_law_465
  refine lw_at (by omega) (br_f (by decide) (br_f (by decide) (br_f (by decide) (br_f (by decide) (br_f (by decide) (br_f (by decide) (br_f (by decide) (br_f (by decide) (br_t rfl ?_)))))))))
  rcases pl_cl H (c := c) (by omega) with ⟨m0, p0, _⟩ | ⟨t, m1, lt, p0, _⟩
  · simp (disch := omega) only [wpX_crash, wpX_isClient, hc, hc', p0, pl_nq, pl_cc, pl_vc, pl_le8, pl_le32, pl_lt64, pl_lt1, pl_lt8, pl_lt32, nI_pos, nI_pos', vp_in_nI, nI_clamp, nI_1, nI_leI, nI_ltI, nI_eq, forall_eq, true_implies, forall_const, not_true_eq_false, not_false_eq_true, false_implies, and_true, true_and, implies_true, and_self, eq_self]
    exact lw_same H HI hJ (lw_sb _ _) kp hF (fun a => absurd a (by decide)) (by decide)
  · simp (disch := omega) only [wpX_crash, wpX_isClient, hc, hc', p0, pl_nq, pl_cc, pl_vc, pl_le8, pl_le32, pl_lt64, pl_lt1, pl_lt8, pl_lt32, nI_pos, nI_pos', vp_in_nI, nI_clamp, nI_1, nI_leI, nI_ltI, nI_eq, forall_eq, true_implies, forall_const, not_true_eq_false, not_false_eq_true, false_implies, and_true, true_and, implies_true, and_self, eq_self]
    refine px_idle (by omega) ?_
    exact lw_go (pl_idle H (c := c) (by omega)) (lw_i_idle (c := c) HI) hJ (lw_sb _ _) (fun t lt => Or.inl (kp t lt)) hF (fun a => absurd a (by decide)) (fun a => absurd a (by decide))
theorem lw_k9 (H : pl_R nc nr nl nt ck bg S P M ph xs xp xq xg xv xf xl xc xh xw xz ym yf ys yp yq yl yg yv) (HI : lw_I nc nr nt ck bg S P M yf yg yv w0 w1 w2 w3 o0 o1 o2 o3 cu rm be st) (kp : ∀ t, t < bg → lw_kp S yf bo de dn t) (hF : lw_F ck bo de dn) (hJ : lw_HJ nc nr jj J197) {c : Nat} (hc : c < nc) : wL_law_465 post L xs0 J98 J197 (nI nc) (nI nr) w0 w1 w2 w3 o0 o1 o2 o3 cu rm be bo de dn st (nI ck) kk aa bb op (nI c) dd r0 re jj rr pa pr 9 kc ks (nI nc) (nI nr) (nI nl) (nI nt) (nI ck) (nI bg) ph xs xp xq xg xv xf xl xc xh xw xz := by
  have hb := pl_b H
  have hc' : ¬ nc ≤ c := by omega
  unfold wL_law_465
  refine lw_at (by omega) (br_f (by decide) (br_f (by decide) (br_f (by decide) (br_f (by decide) (br_f (by decide) (br_f (by decide) (br_f (by decide) (br_f (by decide) (br_f (by decide) ?_)))))))))
  rcases pl_cl H (c := c) (by omega) with ⟨m0, p0, _⟩ | ⟨t, m1, lt, p0, em, es, et, l1, l2, ef, _⟩
  · simp (disch := omega) only [wpX_abandon, wpX_isClient, hc, hc', p0, pl_nq, pl_cc, pl_vc, pl_le8, pl_le32, pl_lt64, pl_lt1, pl_lt8, pl_lt32, nI_pos, nI_pos', vp_in_nI, nI_clamp, nI_1, nI_leI, nI_ltI, nI_eq, forall_eq, true_implies, forall_const, not_true_eq_false, not_false_eq_true, false_implies, and_true, true_and, implies_true, and_self, eq_self]
    exact lw_same H HI hJ (lw_sb _ _) kp hF (fun a => absurd a (by decide)) (by decide)
  · have eC := HI.2.2.2.2.2.1 c t hc m1
    by_cases p4 : ph c = 4
    · simp (disch := omega) only [wpX_abandon, wpX_isClient, hc, hc', p4, pl_nq, pl_cc, pl_vc, pl_le8, pl_le32, pl_lt64, pl_lt1, pl_lt8, pl_lt32, nI_pos, nI_pos', vp_in_nI, nI_clamp, nI_1, nI_leI, nI_ltI, nI_eq, forall_eq, true_implies, forall_const, not_true_eq_false, not_false_eq_true, false_implies, and_true, true_and, implies_true, and_self, eq_self]
      exact lw_same H HI hJ (lw_sb _ _) kp hF (fun a => absurd a (by decide)) (by decide)
    · have H' := pl_idle H (c := c) (by omega)
      have HI' := lw_i_idle (c := c) HI
      by_cases f4 : yf t = 4
      · simp (disch := omega) only [wpX_abandon, wpX_isClient, hc, hc', p0, p4, es, pl_nq, pl_cc, pl_vc, pl_le8, pl_le32, pl_lt64, pl_lt1, pl_lt8, pl_lt32, nI_pos, nI_pos', vp_in_nI, nI_clamp, nI_1, nI_leI, nI_ltI, nI_eq, forall_eq, true_implies, forall_const, not_true_eq_false, not_false_eq_true, false_implies, and_true, true_and, implies_true, and_self, eq_self]
        refine px_idle (by omega) ?_
        simp (disch := omega) only [ef, f4, pl_cc, pl_vc, pl_le8, pl_le32, pl_lt64, pl_lt1, pl_lt8, pl_lt32, nI_pos, nI_pos', vp_in_nI, nI_clamp, nI_1, nI_leI, nI_ltI, nI_eq, forall_eq, true_implies, forall_const, not_true_eq_false, not_false_eq_true, false_implies, and_true, true_and, implies_true, and_self, eq_self]
        exact lw_go H' HI' hJ (lw_sb _ _) (fun t lt => Or.inl (kp t lt)) hF (fun a => absurd a (by decide)) (fun _ => ⟨t, lt, eC.symm, f4⟩)
      · by_cases f2 : yf t = 2
        · simp (disch := omega) only [wpX_abandon, wpX_isClient, hc, hc', p0, p4, es, pl_nq, pl_cc, pl_vc, pl_le8, pl_le32, pl_lt64, pl_lt1, pl_lt8, pl_lt32, nI_pos, nI_pos', vp_in_nI, nI_clamp, nI_1, nI_leI, nI_ltI, nI_eq, forall_eq, true_implies, forall_const, not_true_eq_false, not_false_eq_true, false_implies, and_true, true_and, implies_true, and_self, eq_self]
          refine px_idle (by omega) ?_
          simp (disch := omega) only [ef, f2, pl_nq, pl_cc, pl_vc, pl_le8, pl_le32, pl_lt64, pl_lt1, pl_lt8, pl_lt32, nI_pos, nI_pos', vp_in_nI, nI_clamp, nI_1, nI_leI, nI_ltI, nI_eq, forall_eq, true_implies, forall_const, not_true_eq_false, not_false_eq_true, false_implies, and_true, true_and, implies_true, and_self, eq_self]
          refine px_roll (by omega) (by omega) ?_
          refine lw_go (pl_roll H' lt f2) (lw_i_fate HI' (Or.inl f2) (Or.inr (Or.inr rfl)) (fun y => absurd y (by decide)) (by rw [f2]; decide)) hJ (lw_sb _ _) (fun q lq => ?_) hF (fun a => absurd a (by decide)) (fun a => absurd a (by decide))
          by_cases e : q = t
          · subst e
            have b : lw_bt bo de dn (S q) true false false := by
              rcases kp q lt with ⟨y, _⟩ | ⟨_, y⟩ | ⟨y, _⟩ | ⟨y, _⟩
              · rw [y] at f2; exact absurd f2 (by decide)
              · exact y
              · rw [y] at f2; exact absurd f2 (by decide)
              · rw [y] at f2; exact absurd f2 (by decide)
            exact Or.inr (Or.inr (Or.inl ⟨pl_us, b, Or.inl ⟨rfl, eC.symm⟩⟩))
          · refine Or.inl ?_
            unfold lw_kp
            rw [pl_un e]
            exact kp q lq
        · simp (disch := omega) only [wpX_abandon, wpX_isClient, hc, hc', p0, p4, es, pl_nq, pl_cc, pl_vc, pl_le8, pl_le32, pl_lt64, pl_lt1, pl_lt8, pl_lt32, nI_pos, nI_pos', vp_in_nI, nI_clamp, nI_1, nI_leI, nI_ltI, nI_eq, forall_eq, true_implies, forall_const, not_true_eq_false, not_false_eq_true, false_implies, and_true, true_and, implies_true, and_self, eq_self]
          refine px_idle (by omega) ?_
          simp (disch := omega) only [ef, f4, f2, pl_cc, pl_vc, pl_le8, pl_le32, pl_lt64, pl_lt1, pl_lt8, pl_lt32, nI_pos, nI_pos', vp_in_nI, nI_clamp, nI_1, nI_leI, nI_ltI, nI_eq, forall_eq, true_implies, forall_const, not_true_eq_false, not_false_eq_true, false_implies, and_true, true_and, implies_true, and_self, eq_self]
          exact lw_go H' HI' hJ (lw_sb _ _) (fun t lt => Or.inl (kp t lt)) hF (fun a => absurd a (by decide)) (fun a => absurd a (by decide))
end LWE
end
section
section LWF
variable {nc nr nl nt ck bg : Nat} {S P M : Nat → Nat} {ph xs xp xq xg xv xf xl xc xh xw xz ym yf ys yp yq yl yg yv : Nat → Int32}
variable {w0 w1 w2 w3 o0 o1 o2 o3 cu rm be bo de dn st : Int64} {kk aa bb op cc dd r0 re an jj rr pa pr kd : Int32} {kc ks L s : Nat} {xs0 : Nat → Int32} {post : Int32 → Prop} {J98 : lw_T98} {J197 : lw_T197}
/-! put -/
theorem lw_vr {q s r : Nat} (hs : s ≤ 32) (hr : r < 4) (hq : q ≤ 3) : ¬ lw_v q s r < -1 ∧ lw_v q s r ≤ 9999 := by
  unfold lw_v
  by_cases e : q = 1
  · rw [if_pos e]
    decide
  · rw [if_neg e]
    exact ⟨Int32.not_lt.mpr (Int32.le_trans (by decide : (-1 : Int32) ≤ 0) (nI_pos' (by omega))), nI_le (b := 9999) (by omega) (by decide)⟩
theorem lw_W0 {a b c d m : Int64} : ∀ r', r' < 4 → lw_W m b c d r' = if r' = 0 then m else lw_W a b c d r' := by
  intro r' h
  unfold lw_W
  split <;> rfl
theorem lw_W1 {a b c d m : Int64} : ∀ r', r' < 4 → lw_W a m c d r' = if r' = 1 then m else lw_W a b c d r' := by
  intro r' h
  unfold lw_W
  by_cases e : r' = 0
  · subst e; rfl
  · rw [if_neg e, if_neg e]
    split <;> rfl
theorem lw_W2 {a b c d m : Int64} : ∀ r', r' < 4 → lw_W a b m d r' = if r' = 2 then m else lw_W a b c d r' := by
  intro r' h
  unfold lw_W
  by_cases e : r' = 0
  · subst e; rfl
  · by_cases e1 : r' = 1
    · subst e1; rfl
    · rw [if_neg e, if_neg e1, if_neg e, if_neg e1]
      split <;> rfl
theorem lw_W3 {a b c d m : Int64} : ∀ r', r' < 4 → lw_W a b c m r' = if r' = 3 then m else lw_W a b c d r' := by
  intro r' h
  unfold lw_W
  by_cases e : r' = 0
  · subst e; rfl
  · by_cases e1 : r' = 1
    · subst e1; rfl
    · by_cases e2 : r' = 2
      · subst e2; rfl
      · have e3 : r' = 3 := by omega
        subst e3; rfl
theorem lw_k1 (H : pl_R nc nr nl nt ck bg S P M ph xs xp xq xg xv xf xl xc xh xw xz ym yf ys yp yq yl yg yv) (HI : lw_I nc nr nt ck bg S P M yf yg yv w0 w1 w2 w3 o0 o1 o2 o3 cu rm be st) (kp : ∀ t, t < bg → lw_kp S yf bo de dn t) (hF : lw_F ck bo de dn) (hJ : lw_HJ nc nr jj J197) {c r : Nat} (hc : c < nc) (hr : r < nr)
    (hq : ∃ q, 1 ≤ q ∧ q ≤ 3 ∧ 1 + (((((bb >>> ((3 : Int32) &&& 31)) + (aa >>> ((5 : Int32) &&& 31))) + kk) + jj) - ((((bb >>> ((3 : Int32) &&& 31)) + (aa >>> ((5 : Int32) &&& 31))) + kk) + jj) / 3 * 3) = nI q) : wL_law_465 post L xs0 J98 J197 (nI nc) (nI nr) w0 w1 w2 w3 o0 o1 o2 o3 cu rm be bo de dn st (nI ck) kk aa bb op (nI c) dd r0 re jj (nI r) pa pr 1 kc ks (nI nc) (nI nr) (nI nl) (nI nt) (nI ck) (nI bg) ph xs xp xq xg xv xf xl xc xh xw xz := by
  have hb := pl_b H
  have hc' : ¬ nc ≤ c := by omega
  have hr' : ¬ nr ≤ r := by omega
  have i1 := HI.1
  have i2 := HI.2.1
  have i3 := HI.2.2.1
  obtain ⟨q, q1, q3, eq⟩ := hq
  unfold wL_law_465
  refine lw_at (by omega) (br_f (by decide) (br_t rfl ⟨by decide, nm_r eq (lw_val (by omega) ?_)⟩))
  rcases pl_cl H (c := c) (by omega) with ⟨m0, p0, _⟩ | ⟨t, m1, lt, p0, em, es, et, l1, l2, ef, ok, _⟩
  · by_cases w1 : lw_v q (pb_f cu (8 * c) 8) r < -1
    · simp (disch := omega) only [wpX_put, wpX_isClient, wpX_isRow, hc, hc', hr, hr', w1, lw_neg, pl_nq, pl_cc, pl_vc, pl_le8, pl_le32, pl_lt64, pl_lt1, pl_lt8, pl_lt32, nI_pos, nI_pos', vp_in_nI, nI_clamp, nI_1, nI_leI, nI_ltI, nI_eq, forall_eq, true_implies, forall_const, not_true_eq_false, not_false_eq_true, false_implies, and_true, true_and, implies_true, and_self, eq_self]
      exact lw_same H HI hJ (lw_sb _ _) kp hF (fun a => absurd a (by decide)) (by decide)
    · by_cases w2 : lw_v q (pb_f cu (8 * c) 8) r ≤ 9999
      · simp (disch := omega) only [wpX_put, wpX_isClient, wpX_isRow, hc, hc', hr, hr', w1, w2, p0, lw_neg, pl_nq, pl_cc, pl_vc, pl_le8, pl_le32, pl_lt64, pl_lt1, pl_lt8, pl_lt32, nI_pos, nI_pos', vp_in_nI, nI_clamp, nI_1, nI_leI, nI_ltI, nI_eq, forall_eq, true_implies, forall_const, not_true_eq_false, not_false_eq_true, false_implies, and_true, true_and, implies_true, and_self, eq_self]
        exact lw_same H HI hJ (lw_sb _ _) kp hF (fun a => absurd a (by decide)) (by decide)
      · simp (disch := omega) only [wpX_put, wpX_isClient, wpX_isRow, hc, hc', hr, hr', w1, w2, lw_neg, pl_nq, pl_cc, pl_vc, pl_le8, pl_le32, pl_lt64, pl_lt1, pl_lt8, pl_lt32, nI_pos, nI_pos', vp_in_nI, nI_clamp, nI_1, nI_leI, nI_ltI, nI_eq, forall_eq, true_implies, forall_const, not_true_eq_false, not_false_eq_true, false_implies, and_true, true_and, implies_true, and_self, eq_self]
        exact lw_same H HI hJ (lw_sb _ _) kp hF (fun a => absurd a (by decide)) (by decide)
  · have eC := HI.2.2.2.2.2.1 c t hc m1
    have lS : S t ≤ ck := (H.2.1 t lt).2.2
    rw [eC]
    obtain ⟨v1, v2⟩ := lw_vr (q := q) (s := S t) (r := r) (by omega) (by omega) q3
    by_cases p1 : ph c = 1
    · have f1 := (pl_ok1 ok p1).1
      have nS : ¬ nI (S t) = 0 := nI_ne0 (by omega) (by omega)
      have H' := pl_put H (c := c) (t := t) (r := r) (x := lw_v q (S t) r) (by omega) m1 p1 hr
      simp (disch := omega) only [wpX_put, wpX_isClient, wpX_isRow, wpX_clientCell, hc, hc', hr, hr', v1, v2, p1, nS, pl_nq, pl_cc, pl_vc, pl_le8, pl_le32, pl_lt64, pl_lt1, pl_lt8, pl_lt32, nI_pos, nI_pos', vp_in_nI, nI_clamp, nI_1, nI_leI, nI_ltI, nI_eq, forall_eq, true_implies, forall_const, not_true_eq_false, not_false_eq_true, false_implies, and_true, true_and, implies_true, and_self, eq_self]
      rw [lw_p1 l1, lw_2, nI_l (n := q) (by omega)]
      refine lw_sel (by omega) ?_
      have go : ∀ w0' w1' w2' w3', (∀ r', r' < 4 → lw_W w0' w1' w2' w3' r' = if r' = r then pb_put (lw_W w0 w1 w2 w3 r) (2 * (S t - 1)) 2 q else lw_W w0 w1 w2 w3 r') → ∃ n, wL_law_1027 post L xs0 J98 J197 (nI nc) (nI nr) w0' w1' w2' w3' o0 o1 o2 o3 cu rm be st (nI ck) kk aa bb op (nI c) dd r0 re 0 jj (nI r) pa pr 1 (nI (S t)) kc ks (nI nc) (nI nr) (nI nl) (nI nt) (nI ck) (nI bg) ph xs xp xq (upd xg (c * 8 + r) 1) (upd xv (c * 8 + r) (lw_v q (S t) r)) xf xl xc xh xw xz n bo de dn 1 := by
        intro w0' w1' w2' w3' hW
        exact lw_go H' (lw_i_put H hc m1 f1 hr q1 q3 hW HI) hJ (by omega) (fun t lt => Or.inl (kp t lt)) hF (fun a => absurd a (by decide)) (fun a => absurd a (by decide))
      have h4 : r = 0 ∨ r = 1 ∨ r = 2 ∨ r = 3 := by omega
      rcases h4 with e | e | e | e
      · subst e
        exact br_t rfl (go _ _ _ _ lw_W0)
      · subst e
        exact br_f (by decide) (br_t rfl (go _ _ _ _ lw_W1))
      · subst e
        exact br_f (by decide) (br_f (by decide) (br_t rfl (go _ _ _ _ lw_W2)))
      · subst e
        exact br_f (by decide) (br_f (by decide) (br_f (by decide) (go _ _ _ _ lw_W3)))
    · simp (disch := omega) only [wpX_put, wpX_isClient, wpX_isRow, hc, hc', hr, hr', v1, v2, p0, p1, pl_nq, pl_cc, pl_vc, pl_le8, pl_le32, pl_lt64, pl_lt1, pl_lt8, pl_lt32, nI_pos, nI_pos', vp_in_nI, nI_clamp, nI_1, nI_leI, nI_ltI, nI_eq, forall_eq, true_implies, forall_const, not_true_eq_false, not_false_eq_true, false_implies, and_true, true_and, implies_true, and_self, eq_self]
      exact lw_same H HI hJ (by omega) kp hF (fun a => absurd a (by decide)) (by decide)
/-! stamp -/
theorem lw_k3 (H : pl_R nc nr nl nt ck bg S P M ph xs xp xq xg xv xf xl xc xh xw xz ym yf ys yp yq yl yg yv) (HI : lw_I nc nr nt ck bg S P M yf yg yv w0 w1 w2 w3 o0 o1 o2 o3 cu rm be st) (kp : ∀ t, t < bg → lw_kp S yf bo de dn t) (hF : lw_F ck bo de dn) (hJ : lw_HJ nc nr jj J197) {c : Nat} (hc : c < nc) : wL_law_465 post L xs0 J98 J197 (nI nc) (nI nr) w0 w1 w2 w3 o0 o1 o2 o3 cu rm be bo de dn st (nI ck) kk aa bb op (nI c) dd r0 re jj rr pa pr 3 kc ks (nI nc) (nI nr) (nI nl) (nI nt) (nI ck) (nI bg) ph xs xp xq xg xv xf xl xc xh xw xz := by
  have hb := pl_b H
  have hc' : ¬ nc ≤ c := by omega
  have i16 := HI.2.2.1
  unfold wL_law_465
  refine lw_at (by omega) (br_f (by decide) (br_f (by decide) (br_f (by decide) (br_t rfl ?_))))
  rcases pl_cl H (c := c) (by omega) with ⟨m0, p0, _⟩ | ⟨t, m1, lt, p0, em, es, et, l1, l2, ef, ok, eq, eq', eg, _⟩
  · simp (disch := omega) only [wpX_stamp, wpX_isClient, hc, hc', p0, lw_neg, pl_nq, pl_cc, pl_vc, pl_le8, pl_le32, pl_lt64, pl_lt1, pl_lt8, pl_lt32, nI_pos, nI_pos', vp_in_nI, nI_clamp, nI_1, nI_leI, nI_ltI, nI_eq, forall_eq, true_implies, forall_const, not_true_eq_false, not_false_eq_true, false_implies, and_true, true_and, implies_true, and_self, eq_self]
    exact lw_same H HI hJ (lw_sb _ _) kp hF (fun a => absurd a (by decide)) (by decide)
  · have eC := HI.2.2.2.2.2.1 c t hc m1
    by_cases p2 : ph c = 2
    · obtain ⟨hf, hP⟩ := pl_ok2 ok p2
      have H' := pl_stamp H (c := c) (by omega) m1 p2
      have hb' := pl_b H'
      have lS : S t ≤ ck := (H.2.1 t lt).2.2
      simp (disch := omega) only [wpX_stamp, wpX_isClient, wpX_drawTimestamp, wpX_drawTimestamp_2, hc, hc', p2, pl_nq, pl_cc, pl_vc, pl_le8, pl_le32, pl_lt64, pl_lt1, pl_lt8, pl_lt32, nI_pos, nI_pos', vp_in_nI, nI_clamp, nI_1, nI_leI, nI_ltI, nI_eq, forall_eq, true_implies, forall_const, not_true_eq_false, not_false_eq_true, false_implies, and_true, true_and, implies_true, and_self, eq_self]
      refine px_hp (by omega) (by omega) (fun r lr g1 => ?_) (fun hz => ?_)
      · simp (disch := omega) only [lw_neg, pl_nq, pl_cc, pl_vc, pl_le8, pl_le32, pl_lt64, pl_lt1, pl_lt8, pl_lt32, nI_pos, nI_pos', vp_in_nI, nI_clamp, nI_1, nI_leI, nI_ltI, nI_eq, forall_eq, true_implies, forall_const, not_true_eq_false, not_false_eq_true, false_implies, and_true, true_and, implies_true, and_self, eq_self]
        exact lw_same H HI hJ (lw_sb _ _) kp hF (fun a => absurd a (by decide)) (by decide)
      · have q1 : ¬ nI (ck + 1) ≤ 0 := nI_nle (by omega) (by omega)
        have q2 : ¬ ck + 1 ≤ ck := by omega
        have q3 : ¬ (32 : Int32) < nI (ck + 1) := nI_nlt (a := 32) (by omega) (by decide)
        have nS : ¬ nI (S t) = 0 := nI_ne0 (by omega) (by omega)
        have sb : pb_g st (S t) = false := by
          cases h : pb_g st (S t) with
          | true => exact absurd hP (((HI.2.2.2.2.1).1 t lt).mp h)
          | false => rfl
        have tb := (pb_tst2 st (s := S t) (by omega)).mpr sb
        have hg : ∀ r, r < 8 → ¬ yg (t * 8 + r) = 1 := by
          intro r lr
          by_cases l : r < nr
          · have y := hz r l
            rw [(eg r lr).1] at y
            exact y
          · have y := H.2.2.2.2.2.2.1 t r (by omega) (by omega) lr
            rw [y]
            decide
        have f3 : ¬ yf t = 3 := by
          rcases hf with y | y
          · rw [y]; decide
          · rw [y]; decide
        have d1 : nI (ck + 1) - 1 = nI ck := nI_pred ck
        simp (disch := omega) only [eC, q1, q2, q3, nS, tb, pl_us, d1, lw_s3, lw_a7, pl_nq, pl_cc, pl_vc, pl_le8, pl_le32, pl_lt64, pl_lt1, pl_lt8, pl_lt32, nI_pos, nI_pos', vp_in_nI, nI_clamp, nI_1, nI_leI, nI_ltI, nI_eq, forall_eq, true_implies, forall_const, not_true_eq_false, not_false_eq_true, false_implies, and_true, true_and, implies_true, and_self, eq_self]
        refine lw_sel (by omega) ?_
        refine lw_with (c := ck % 8) (v := S t) (by omega) ?_
        have go : ∀ o0' o1' o2' o3', (∀ g, g < 4 → lw_W o0' o1' o2' o3' g = if g = ck / 8 then pb_put (lw_W o0 o1 o2 o3 (ck / 8)) (8 * (ck % 8)) 8 (S t) else lw_W o0 o1 o2 o3 g) → ∃ n, wL_law_1027 post L xs0 J98 J197 (nI nc) (nI nr) w0 w1 w2 w3 o0' o1' o2' o3' cu rm be (st ||| ((1 : Int64) <<< ((nI (S t)).toInt64 &&& 63))) (nI (ck + 1)) kk aa bb op (nI c) dd r0 re (nI (ck + 1)) jj rr pa pr 3 (nI (S t)) kc ks (nI nc) (nI nr) (nI nl) (nI nt) (nI (ck + 1)) (nI bg) (upd ph c 3) xs (upd xp c (nI (ck + 1))) xq xg xv xf xl xc xh xw xz n bo de dn 1 := by
          intro o0' o1' o2' o3' hO
          refine lw_go H' (lw_i_stamp H hc m1 hP (by omega) f3 hg hO HI) hJ (by omega) (fun t lt => Or.inl (kp t lt)) (fun i a b => hF i (by omega) b) (fun a => absurd a (by decide)) (fun a => ?_)
          exact absurd (by rw [a]; decide : nI (ck + 1) < 0) (nI_pos (by omega))
        have h4 : ck / 8 = 0 ∨ ck / 8 = 1 ∨ ck / 8 = 2 ∨ ck / 8 = 3 := by omega
        rcases h4 with e | e | e | e
        · rw [e] at go ⊢
          exact br_t rfl (go _ _ _ _ lw_W0)
        · rw [e] at go ⊢
          exact br_f (by decide) (br_t rfl (go _ _ _ _ lw_W1))
        · rw [e] at go ⊢
          exact br_f (by decide) (br_f (by decide) (br_t rfl (go _ _ _ _ lw_W2)))
        · rw [e] at go ⊢
          exact br_f (by decide) (br_f (by decide) (br_f (by decide) (go _ _ _ _ lw_W3)))
    · simp (disch := omega) only [wpX_stamp, wpX_isClient, hc, hc', p0, p2, lw_neg, pl_nq, pl_cc, pl_vc, pl_le8, pl_le32, pl_lt64, pl_lt1, pl_lt8, pl_lt32, nI_pos, nI_pos', vp_in_nI, nI_clamp, nI_1, nI_leI, nI_ltI, nI_eq, forall_eq, true_implies, forall_const, not_true_eq_false, not_false_eq_true, false_implies, and_true, true_and, implies_true, and_self, eq_self]
      exact lw_same H HI hJ (lw_sb _ _) kp hF (fun a => absurd a (by decide)) (by decide)
end LWF
end
section
section LWG
variable {nc nr nl nt ck bg : Nat} {S P M : Nat → Nat} {ph xs xp xq xg xv xf xl xc xh xw xz ym yf ys yp yq yl yg yv : Nat → Int32}
variable {w0 w1 w2 w3 o0 o1 o2 o3 cu rm be bo de dn st : Int64} {kk aa bb op cc dd r0 re an jj rr pa pr kd : Int32} {kc ks L s : Nat} {xs0 : Nat → Int32} {post : Int32 → Prop} {J98 : lw_T98} {J197 : lw_T197}
/-! commit -/
theorem lw_b2 {t : Nat} (k : lw_kp S yf bo de dn t) (f2 : yf t = 2) : lw_bt bo de dn (S t) true false false := by
  rcases k with ⟨y, _⟩ | ⟨_, y⟩ | ⟨y, _⟩ | ⟨y, _⟩
  · rw [y] at f2; exact absurd f2 (by decide)
  · exact y
  · rw [y] at f2; exact absurd f2 (by decide)
  · rw [y] at f2; exact absurd f2 (by decide)
/-- behind a row's commit: whether all are committed or not -/
theorem lw_cend (H : pl_R nc nr nl nt ck bg S P M ph xs xp xq xg xv xf xl xc xh xw xz ym yf ys yp yq yl yg yv) (HI : lw_I nc nr nt ck bg S P M yf yg yv w0 w1 w2 w3 o0 o1 o2 o3 cu rm be st) (hJ : lw_HJ nc nr jj J197) {c t : Nat} (hc : c < nc) (m1 : M c = t + 1) (f3 : yf t = 3)
    (hst : ∀ q, q < bg → lw_sta nr S P yf yg bo de dn rm 4 0 (pb_f cu (8 * c) 8) rr pr pa q) (hF : lw_F ck bo de dn) {Z : Int32 → St2 → Prop}
    (hZ1 : (∃ n, wL_law_1027 post L xs0 J98 J197 (nI nc) (nI nr) w0 w1 w2 w3 o0 o1 o2 o3 cu rm be st (nI ck) kk aa bb op (nI c) dd r0 re 0 jj rr pa pr 4 (nI (pb_f cu (8 * c) 8)) kc ks (nI nc) (nI nr) (nI nl) (nI nt) (nI ck) (nI bg) ph xs xp xq xg xv xf xl xc xh xw xz n bo de dn 1) → Z 0 (nI nc, nI nr, nI nl, nI nt, nI ck, nI bg, ph, xs, xp, xq, xg, xv, xf, xl, xc, xh, xw, xz))
    (hZ2 : (∃ n, wL_law_1027 post L xs0 J98 J197 (nI nc) (nI nr) w0 w1 w2 w3 o0 o1 o2 o3 cu rm be st (nI ck) kk aa bb op (nI c) dd r0 re 0 jj rr pa pr 4 (nI (pb_f cu (8 * c) 8)) kc ks (nI nc) (nI nr) (nI nl) (nI nt) (nI ck) (nI bg) (upd ph c 0) (upd xs c (-1)) (upd xp c (-1)) (upd xq c (-1)) (pl_zr c xg) xv xf xl xc xh xw xz n bo de dn 1) → Z 0 (nI nc, nI nr, nI nl, nI nt, nI ck, nI bg, upd ph c 0, upd xs c (-1), upd xp c (-1), upd xq c (-1), pl_zr c xg, xv, xf, xl, xc, xh, xw, xz)) :
    wX_commit_97 Z (nI c) 0 (nI nc) (nI nr) (nI nl) (nI nt) (nI ck) (nI bg) ph xs xp xq xg xv xf xl xc xh xw xz := by
  have hb := pl_b H
  have lt : t < bg := (H.2.2.2.2.2.2.2.2.2.1 c t (by omega) m1).1
  have eC := HI.2.2.2.2.2.1 c t hc m1
  simp (disch := omega) only [wX_commit_97, pl_cc, pl_vc, pl_le8, pl_le32, pl_lt64, pl_lt1, pl_lt8, pl_lt32, nI_pos, nI_pos', vp_in_nI, nI_clamp, nI_1, nI_leI, nI_ltI, nI_eq, forall_eq, true_implies, forall_const, not_true_eq_false, not_false_eq_true, false_implies, and_true, true_and, implies_true, and_self, eq_self]
  refine px_wc (by omega) (by omega) (fun r lr a b => ?_) (fun hz => ?_)
  · simp (disch := omega) only [pl_cc, pl_vc, pl_le8, pl_le32, pl_lt64, pl_lt1, pl_lt8, pl_lt32, nI_pos, nI_pos', vp_in_nI, nI_clamp, nI_1, nI_leI, nI_ltI, nI_eq, forall_eq, true_implies, forall_const, not_true_eq_false, not_false_eq_true, false_implies, and_true, true_and, implies_true, and_self, eq_self]
    exact hZ1 (lw_go H HI hJ (lw_sb _ _) hst hF (fun _ _ => ⟨t, lt, eC.symm, f3⟩) (fun a => absurd a (by decide)))
  · simp (disch := omega) only [pl_nq, pl_cc, pl_vc, pl_le8, pl_le32, pl_lt64, pl_lt1, pl_lt8, pl_lt32, nI_pos, nI_pos', vp_in_nI, nI_clamp, nI_1, nI_leI, nI_ltI, nI_eq, forall_eq, true_implies, forall_const, not_true_eq_false, not_false_eq_true, false_implies, and_true, true_and, implies_true, and_self, eq_self]
    refine px_idle (by omega) ?_
    exact hZ2 (lw_go (pl_idle H (c := c) (by omega)) (lw_i_idle (c := c) HI) hJ (lw_sb _ _) hst hF (fun _ _ => ⟨t, lt, eC.symm, f3⟩) (fun a => absurd a (by decide)))
theorem lw_k4 (H : pl_R nc nr nl nt ck bg S P M ph xs xp xq xg xv xf xl xc xh xw xz ym yf ys yp yq yl yg yv) (HI : lw_I nc nr nt ck bg S P M yf yg yv w0 w1 w2 w3 o0 o1 o2 o3 cu rm be st) (kp : ∀ t, t < bg → lw_kp S yf bo de dn t) (hF : lw_F ck bo de dn) (hJ : lw_HJ nc nr jj J197) {c : Nat} (hc : c < nc) (hpa : pa = ph c) (hpr : pr = xq c) : wL_law_465 post L xs0 J98 J197 (nI nc) (nI nr) w0 w1 w2 w3 o0 o1 o2 o3 cu rm be bo de dn st (nI ck) kk aa bb op (nI c) dd r0 re jj rr pa pr 4 kc ks (nI nc) (nI nr) (nI nl) (nI nt) (nI ck) (nI bg) ph xs xp xq xg xv xf xl xc xh xw xz := by
  have hb := pl_b H
  have hc' : ¬ nc ≤ c := by omega
  have i2 := HI.2.1
  have sm : ∀ a : Int32, ¬ a = 0 → ¬ a = -11 → ∃ n, wL_law_1027 post L xs0 J98 J197 (nI nc) (nI nr) w0 w1 w2 w3 o0 o1 o2 o3 cu rm be st (nI ck) kk aa bb op (nI c) dd r0 re a jj rr pa pr 4 (nI (pb_f cu (8 * c) 8)) kc ks (nI nc) (nI nr) (nI nl) (nI nt) (nI ck) (nI bg) ph xs xp xq xg xv xf xl xc xh xw xz n bo de dn 1 := fun a h0 h11 => lw_same H HI hJ (lw_sb _ _) kp hF (fun _ => h0) h11
  unfold wL_law_465
  refine lw_at (by omega) (br_f (by decide) (br_f (by decide) (br_f (by decide) (br_f (by decide) (br_t rfl ?_)))))
  rcases pl_ix rr (n := nr) (by omega) with h | ⟨h, h', h''⟩ | ⟨r, hr, rfl⟩
  · simp (disch := omega) only [wpX_commit, wpX_isClient, wpX_isRow, hc, hc', h, pl_nq, pl_cc, pl_vc, pl_le8, pl_le32, pl_lt64, pl_lt1, pl_lt8, pl_lt32, nI_pos, nI_pos', vp_in_nI, nI_clamp, nI_1, nI_leI, nI_ltI, nI_eq, forall_eq, true_implies, forall_const, not_true_eq_false, not_false_eq_true, false_implies, and_true, true_and, implies_true, and_self, eq_self]
    exact sm _ (by decide) (by decide)
  · simp (disch := omega) only [wpX_commit, wpX_isClient, wpX_isRow, hc, hc', h, h', pl_nq, pl_cc, pl_vc, pl_le8, pl_le32, pl_lt64, pl_lt1, pl_lt8, pl_lt32, nI_pos, nI_pos', vp_in_nI, nI_clamp, nI_1, nI_leI, nI_ltI, nI_eq, forall_eq, true_implies, forall_const, not_true_eq_false, not_false_eq_true, false_implies, and_true, true_and, implies_true, and_self, eq_self]
    exact sm _ (by decide) (by decide)
  · have hr' : ¬ nr ≤ r := by omega
    rcases pl_cl H (c := c) (by omega) with ⟨m0, p0, _⟩ | ⟨t, m1, lt, p0, em, es, et, l1, l2, ef, ok, eq, eq', eg, ep, ep', lp⟩
    · simp (disch := omega) only [wpX_commit, wpX_isClient, wpX_isRow, hc, hc', hr, hr', p0, pl_nq, pl_cc, pl_vc, pl_le8, pl_le32, pl_lt64, pl_lt1, pl_lt8, pl_lt32, nI_pos, nI_pos', vp_in_nI, nI_clamp, nI_1, nI_leI, nI_ltI, nI_eq, forall_eq, true_implies, forall_const, not_true_eq_false, not_false_eq_true, false_implies, and_true, true_and, implies_true, and_self, eq_self]
      exact sm _ (by decide) (by decide)
    · have eC := HI.2.2.2.2.2.1 c t hc m1
      by_cases p1 : ph c = 1
      · simp (disch := omega) only [wpX_commit, wpX_isClient, wpX_isRow, hc, hc', hr, hr', p1, pl_nq, pl_cc, pl_vc, pl_le8, pl_le32, pl_lt64, pl_lt1, pl_lt8, pl_lt32, nI_pos, nI_pos', vp_in_nI, nI_clamp, nI_1, nI_leI, nI_ltI, nI_eq, forall_eq, true_implies, forall_const, not_true_eq_false, not_false_eq_true, false_implies, and_true, true_and, implies_true, and_self, eq_self]
        exact sm _ (by decide) (by decide)
      · by_cases p2 : ph c = 2
        · simp (disch := omega) only [wpX_commit, wpX_isClient, wpX_isRow, hc, hc', hr, hr', p2, pl_nq, pl_cc, pl_vc, pl_le8, pl_le32, pl_lt64, pl_lt1, pl_lt8, pl_lt32, nI_pos, nI_pos', vp_in_nI, nI_clamp, nI_1, nI_leI, nI_ltI, nI_eq, forall_eq, true_implies, forall_const, not_true_eq_false, not_false_eq_true, false_implies, and_true, true_and, implies_true, and_self, eq_self]
          exact sm _ (by decide) (by decide)
        · have e0 := (eg r (by omega)).1
          by_cases g0 : yg (t * 8 + r) = 0
          · simp (disch := omega) only [wpX_commit, wpX_isClient, wpX_isRow, wpX_clientCell, hc, hc', hr, hr', p0, p1, p2, e0, g0, pl_nq, pl_cc, pl_vc, pl_le8, pl_le32, pl_lt64, pl_lt1, pl_lt8, pl_lt32, nI_pos, nI_pos', vp_in_nI, nI_clamp, nI_1, nI_leI, nI_ltI, nI_eq, forall_eq, true_implies, forall_const, not_true_eq_false, not_false_eq_true, false_implies, and_true, true_and, implies_true, and_self, eq_self]
            exact sm _ (by decide) (by decide)
          · by_cases p3 : ph c = 3
            · have p03 : ¬ (3 : Int32) = 0 := by decide
              by_cases eq1 : xq c = nI r
              · by_cases f4 : yf t = 4
                · simp (disch := omega) only [wpX_commit, wpX_isClient, wpX_isRow, wpX_clientCell, wpX_commitWhenStamped, hc, hc', hr, hr', p3, e0, g0, eq1, es, ef, f4, pl_nq, pl_cc, pl_vc, pl_le8, pl_le32, pl_lt64, pl_lt1, pl_lt8, pl_lt32, nI_pos, nI_pos', vp_in_nI, nI_clamp, nI_1, nI_leI, nI_ltI, nI_eq, forall_eq, true_implies, forall_const, not_true_eq_false, not_false_eq_true, false_implies, and_true, true_and, implies_true, and_self, eq_self]
                  refine px_idle (by omega) ?_
                  simp (disch := omega) only [wX_commit_97, pl_nq, pl_cc, pl_vc, pl_le8, pl_le32, pl_lt64, pl_lt1, pl_lt8, pl_lt32, nI_pos, nI_pos', vp_in_nI, nI_clamp, nI_1, nI_leI, nI_ltI, nI_eq, forall_eq, true_implies, forall_const, not_true_eq_false, not_false_eq_true, false_implies, and_true, true_and, implies_true, and_self, eq_self]
                  exact lw_go (pl_idle H (c := c) (by omega)) (lw_i_idle (c := c) HI) hJ (lw_sb _ _) (fun t lt => Or.inl (kp t lt)) hF (fun _ a => absurd a (by decide)) (fun _ => ⟨t, lt, eC.symm, f4⟩)
                · obtain ⟨of, oP⟩ := pl_ok3 ok p3
                  have f2 : yf t = 2 := of.elim id (fun y => absurd y f4)
                  rw [if_neg oP] at ep
                  simp (disch := omega) only [wpX_commit, wpX_isClient, wpX_isRow, wpX_clientCell, wpX_commitWhenStamped, hc, hc', hr, hr', p3, e0, g0, eq1, es, ef, f4, ep, pl_nq, pl_cc, pl_vc, pl_le8, pl_le32, pl_lt64, pl_lt1, pl_lt8, pl_lt32, nI_pos, nI_pos', vp_in_nI, nI_clamp, nI_1, nI_leI, nI_ltI, nI_eq, forall_eq, true_implies, forall_const, not_true_eq_false, not_false_eq_true, false_implies, and_true, true_and, implies_true, and_self, eq_self]
                  refine px_av (by omega) (by omega) lp ep (fun w z hA => ?_)
                  refine px_eh (by omega) ?_
                  simp (disch := omega) only [pl_cc, pl_vc, pl_le8, pl_le32, pl_lt64, pl_lt1, pl_lt8, pl_lt32, nI_pos, nI_pos', vp_in_nI, nI_clamp, nI_1, nI_leI, nI_ltI, nI_eq, forall_eq, true_implies, forall_const, not_true_eq_false, not_false_eq_true, false_implies, and_true, true_and, implies_true, and_self, eq_self]
                  have H1 := pl_comm H (c := c) (by omega) m1 p3 f2 hA.1 hA.2
                  have H2 := pl_stg H1 (c := c) (x := 3) (by omega) m1 (by rw [pl_us]; decide) (by rw [pl_us]; decide) hr g0 (by decide)
                  have HI1 := lw_i_fate (t := t) (y := 3) HI (Or.inl f2) (Or.inr (Or.inl rfl)) (fun y => absurd y (by decide)) (by rw [f2]; decide)
                  have HI2 := lw_i_stg H1 (x := 3) hc m1 hr g0 (fun y => by rw [pl_us] at y; exact absurd y (by decide)) (Or.inr ⟨rfl, pl_us⟩) HI1
                  refine lw_cend H2 HI2 hJ hc m1 pl_us (fun q lq => ?_) hF (fun z => z) (fun z => z)
                  by_cases e : q = t
                  · subst e
                    refine Or.inr (Or.inr (Or.inr ⟨pl_us, lw_b2 (kp q lt) f2, rfl, rfl, eC.symm, eq1.symm.trans hpr.symm, hpa.trans p3, fun i li g => ?_⟩))
                    refine (HI.2.2.2.2.2.2.2.2.1 i li).2 q lt f2 oP (fun y => g ?_)
                    by_cases ei : i = r
                    · rw [ei] at y; exact absurd y g0
                    · rw [pl_c3 ei]; exact y
                  · refine Or.inl ?_
                    unfold lw_kp
                    rw [pl_un e]
                    exact kp q lq
              · have ne1 : ¬ nI r = xq c := fun y => eq1 y.symm
                simp (disch := omega) only [wpX_commit, wpX_isClient, wpX_isRow, wpX_clientCell, wpX_commitWhenStamped, wX_commit_97, hc, hc', hr, hr', p3, e0, g0, ne1, pl_nq, pl_cc, pl_vc, pl_le8, pl_le32, pl_lt64, pl_lt1, pl_lt8, pl_lt32, nI_pos, nI_pos', vp_in_nI, nI_clamp, nI_1, nI_leI, nI_ltI, nI_eq, forall_eq, true_implies, forall_const, not_true_eq_false, not_false_eq_true, false_implies, and_true, true_and, implies_true, and_self, eq_self]
                exact sm _ (by decide) (by decide)
            · have p4 : ph c = 4 := by
                unfold pl_ok at ok
                rcases ok with z | z | z | z
                · exact absurd z.1 p1
                · exact absurd z.1 p2
                · exact absurd z.1 p3
                · exact z.1
              have f3 := pl_ok4 ok p4
              by_cases g3 : yg (t * 8 + r) = 3
              · simp (disch := omega) only [wpX_commit, wpX_isClient, wpX_isRow, wpX_clientCell, wpX_commitWhenCommitted, wX_commit_97, hc, hc', hr, hr', p0, p1, p2, p3, e0, g3, pl_nq, pl_cc, pl_vc, pl_le8, pl_le32, pl_lt64, pl_lt1, pl_lt8, pl_lt32, nI_pos, nI_pos', vp_in_nI, nI_clamp, nI_1, nI_leI, nI_ltI, nI_eq, forall_eq, true_implies, forall_const, not_true_eq_false, not_false_eq_true, false_implies, and_true, true_and, implies_true, and_self, eq_self]
                exact sm _ (by decide) (by decide)
              · simp (disch := omega) only [wpX_commit, wpX_isClient, wpX_isRow, wpX_clientCell, wpX_commitWhenCommitted, hc, hc', hr, hr', p0, p1, p2, p3, e0, g0, g3, pl_nq, pl_cc, pl_vc, pl_le8, pl_le32, pl_lt64, pl_lt1, pl_lt8, pl_lt32, nI_pos, nI_pos', vp_in_nI, nI_clamp, nI_1, nI_leI, nI_ltI, nI_eq, forall_eq, true_implies, forall_const, not_true_eq_false, not_false_eq_true, false_implies, and_true, true_and, implies_true, and_self, eq_self]
                have H2 := pl_stg H (c := c) (x := 3) (by omega) m1 p1 (by rw [f3]; decide) hr g0 (by decide)
                have HI2 := lw_i_stg H (x := 3) hc m1 hr g0 (fun y => by rw [f3] at y; exact absurd y (by decide)) (Or.inr ⟨rfl, f3⟩) HI
                exact lw_cend H2 HI2 hJ hc m1 f3 (fun q lq => Or.inl (kp q lq)) hF (fun z => z) (fun z => z)
/-! prewrite -/
theorem lw_lk {t r : Nat} {yf' : Nat → Int32} (kp : ∀ t, t < bg → lw_kp S yf bo de dn t) (hTI : pl_TI bg S) (lt : t < bg) (lk : pl_lk bg r S xh yf yl yg yf') (hk : kd = 2 ∨ kd = 5) (es : S t = s)
    (ho : ∀ t1, t1 < bg → yf t1 = 2 → yg (t1 * 8 + r) = 2 → t1 ≠ t) (HI : lw_I nc nr nt ck bg S P M yf yg yv w0 w1 w2 w3 o0 o1 o2 o3 cu rm be st) :
    lw_I nc nr nt ck bg S P M yf' yg yv w0 w1 w2 w3 o0 o1 o2 o3 cu rm be st ∧ yf' t = yf t ∧ ∀ q, q < bg → lw_kp S yf' bo de dn q ∨ (q ≠ t ∧ yf' q = 4 ∧ lw_bt bo de dn (S q) true false false ∧ ((kd = 9 ∧ S q = s) ∨ ((kd = 2 ∨ kd = 5) ∧ S q ≠ s))) := by
  rcases lk with ⟨e, _⟩ | ⟨t1, lt1, f2, g2, _, _, _, e⟩
  · subst e
    exact ⟨HI, rfl, fun q lq => Or.inl (kp q lq)⟩
  · subst e
    have ne := ho t1 lt1 f2 g2
    refine ⟨lw_i_fate HI (Or.inl f2) (Or.inr (Or.inr rfl)) (fun y => absurd y (by decide)) (by rw [f2]; decide), pl_un (fun y => ne y.symm), fun q lq => ?_⟩
    by_cases e : q = t1
    · subst e
      exact Or.inr ⟨ne, pl_us, lw_b2 (kp q lq) f2, Or.inr ⟨hk, by rw [← es]; exact pl_Sj hTI lq lt ne⟩⟩
    · refine Or.inl ?_
      unfold lw_kp
      rw [pl_un e]
      exact kp q lq
theorem lw_k2 (H : pl_R nc nr nl nt ck bg S P M ph xs xp xq xg xv xf xl xc xh xw xz ym yf ys yp yq yl yg yv) (HI : lw_I nc nr nt ck bg S P M yf yg yv w0 w1 w2 w3 o0 o1 o2 o3 cu rm be st) (kp : ∀ t, t < bg → lw_kp S yf bo de dn t) (hF : lw_F ck bo de dn) (hJ : lw_HJ nc nr jj J197) {c r : Nat} (hc : c < nc) (hr : r < nr) : wL_law_465 post L xs0 J98 J197 (nI nc) (nI nr) w0 w1 w2 w3 o0 o1 o2 o3 cu rm be bo de dn st (nI ck) kk aa bb op (nI c) dd r0 re jj (nI r) pa pr 2 kc ks (nI nc) (nI nr) (nI nl) (nI nt) (nI ck) (nI bg) ph xs xp xq xg xv xf xl xc xh xw xz := by
  have hb := pl_b H
  have hc' : ¬ nc ≤ c := by omega
  have hr' : ¬ nr ≤ r := by omega
  have sm : ∀ a : Int32, ¬ a = -11 → ∃ n, wL_law_1027 post L xs0 J98 J197 (nI nc) (nI nr) w0 w1 w2 w3 o0 o1 o2 o3 cu rm be st (nI ck) kk aa bb op (nI c) dd r0 re a jj (nI r) pa pr 2 (nI (pb_f cu (8 * c) 8)) kc ks (nI nc) (nI nr) (nI nl) (nI nt) (nI ck) (nI bg) ph xs xp xq xg xv xf xl xc xh xw xz n bo de dn 1 := fun a h11 => lw_same H HI hJ (lw_sb _ _) kp hF (fun y => absurd y (by decide)) h11
  unfold wL_law_465
  refine lw_at (by omega) (br_f (by decide) (br_f (by decide) (br_t rfl ?_)))
  rcases pl_cl H (c := c) (by omega) with ⟨m0, p0, _⟩ | ⟨t, m1, lt, p0, em, es, et, l1, l2, ef, ok, eq, eq', eg, _⟩
  · simp (disch := omega) only [wpX_prewrite, wpX_isClient, wpX_isRow, hc, hc', hr, hr', p0, pl_nq, pl_cc, pl_vc, pl_le8, pl_le32, pl_lt64, pl_lt1, pl_lt8, pl_lt32, nI_pos, nI_pos', vp_in_nI, nI_clamp, nI_1, nI_leI, nI_ltI, nI_eq, forall_eq, true_implies, forall_const, not_true_eq_false, not_false_eq_true, false_implies, and_true, true_and, implies_true, and_self, eq_self]
    exact sm _ (by decide)
  · have eC := HI.2.2.2.2.2.1 c t hc m1
    by_cases p3 : ph c = 3
    · simp (disch := omega) only [wpX_prewrite, wpX_isClient, wpX_isRow, hc, hc', hr, hr', p3, pl_nq, pl_cc, pl_vc, pl_le8, pl_le32, pl_lt64, pl_lt1, pl_lt8, pl_lt32, nI_pos, nI_pos', vp_in_nI, nI_clamp, nI_1, nI_leI, nI_ltI, nI_eq, forall_eq, true_implies, forall_const, not_true_eq_false, not_false_eq_true, false_implies, and_true, true_and, implies_true, and_self, eq_self]
      exact sm _ (by decide)
    · by_cases p4 : ph c = 4
      · simp (disch := omega) only [wpX_prewrite, wpX_isClient, wpX_isRow, hc, hc', hr, hr', p4, pl_nq, pl_cc, pl_vc, pl_le8, pl_le32, pl_lt64, pl_lt1, pl_lt8, pl_lt32, nI_pos, nI_pos', vp_in_nI, nI_clamp, nI_1, nI_leI, nI_ltI, nI_eq, forall_eq, true_implies, forall_const, not_true_eq_false, not_false_eq_true, false_implies, and_true, true_and, implies_true, and_self, eq_self]
        exact sm _ (by decide)
      · have e0 := (eg r (by omega)).1
        by_cases g0 : yg (t * 8 + r) = 0
        · simp (disch := omega) only [wpX_prewrite, wpX_isClient, wpX_isRow, wpX_clientCell, hc, hc', hr, hr', p0, p3, p4, e0, g0, pl_nq, pl_cc, pl_vc, pl_le8, pl_le32, pl_lt64, pl_lt1, pl_lt8, pl_lt32, nI_pos, nI_pos', vp_in_nI, nI_clamp, nI_1, nI_leI, nI_ltI, nI_eq, forall_eq, true_implies, forall_const, not_true_eq_false, not_false_eq_true, false_implies, and_true, true_and, implies_true, and_self, eq_self]
          exact sm _ (by decide)
        · by_cases g2 : yg (t * 8 + r) = 2
          · simp (disch := omega) only [wpX_prewrite, wpX_isClient, wpX_isRow, wpX_clientCell, hc, hc', hr, hr', p0, p3, p4, e0, g2, pl_nq, pl_cc, pl_vc, pl_le8, pl_le32, pl_lt64, pl_lt1, pl_lt8, pl_lt32, nI_pos, nI_pos', vp_in_nI, nI_clamp, nI_1, nI_leI, nI_ltI, nI_eq, forall_eq, true_implies, forall_const, not_true_eq_false, not_false_eq_true, false_implies, and_true, true_and, implies_true, and_self, eq_self]
            exact sm _ (by decide)
          · simp (disch := omega) only [wpX_prewrite, wpX_isClient, wpX_isRow, wpX_clientCell, hc, hc', hr, hr', p0, p3, p4, e0, g0, g2, pl_nq, pl_cc, pl_vc, pl_le8, pl_le32, pl_lt64, pl_lt1, pl_lt8, pl_lt32, nI_pos, nI_pos', vp_in_nI, nI_clamp, nI_1, nI_leI, nI_ltI, nI_eq, forall_eq, true_implies, forall_const, not_true_eq_false, not_false_eq_true, false_implies, and_true, true_and, implies_true, and_self, eq_self]
            refine px_clear H hr (fun t1 lt1 f1 h1 m e1 z => ?_) ?_
            · simp (disch := omega) only [pl_cc, pl_vc, pl_le8, pl_le32, pl_lt64, pl_lt1, pl_lt8, pl_lt32, nI_pos, nI_pos', vp_in_nI, nI_clamp, nI_1, nI_leI, nI_ltI, nI_eq, forall_eq, true_implies, forall_const, not_true_eq_false, not_false_eq_true, false_implies, and_true, true_and, implies_true, and_self, eq_self]
              exact sm _ (by decide)
            · intro xf' xh' yf' H' hh lk
              obtain ⟨HI', ey, hq⟩ := lw_lk (kd := 2) (s := pb_f cu (8 * c) 8) kp H.2.2.1 lt lk (Or.inl rfl) eC.symm (fun t1 _ _ g e => g2 (by rw [← e]; exact g)) HI
              have hst : ∀ (an : Int32) (g : Nat → Int32) (q : Nat), q < bg → lw_sta nr S P yf' g bo de dn rm 2 an (pb_f cu (8 * c) 8) (nI r) pr pa q := fun an g q lq => (hq q lq).elim Or.inl (fun y => Or.inr (Or.inr (Or.inl y.2)))
              simp (disch := omega) only [es, pl_nq, pl_cc, pl_vc, pl_le8, pl_le32, pl_lt64, pl_lt1, pl_lt8, pl_lt32, nI_pos, nI_pos', vp_in_nI, nI_clamp, nI_1, nI_leI, nI_ltI, nI_eq, forall_eq, true_implies, forall_const, not_true_eq_false, not_false_eq_true, false_implies, and_true, true_and, implies_true, and_self, eq_self]
              have ef' : xf' (S t) = yf' t := H'.2.2.2.2.2.2.2.2.2.2.2.2.2.1 t lt
              have fin : ∀ Z : Int32 → St2 → Prop, ((∃ n, wL_law_1027 post L xs0 J98 J197 (nI nc) (nI nr) w0 w1 w2 w3 o0 o1 o2 o3 cu rm be st (nI ck) kk aa bb op (nI c) dd r0 re 0 jj (nI r) pa pr 2 (nI (pb_f cu (8 * c) 8)) kc ks (nI nc) (nI nr) (nI nl) (nI nt) (nI ck) (nI bg) (upd ph c 2) xs xp (upd xq c (nI r)) (upd xg (c * 8 + r) 2) xv (upd xf' (S t) 2) (upd xl (S t) (nI nl)) xc (upd xh' r (nI (S t))) xw xz n bo de dn 1) → Z 0 (nI nc, nI nr, nI nl, nI nt, nI ck, nI bg, upd ph c 2, xs, xp, upd xq c (nI r), upd xg (c * 8 + r) 2, xv, upd xf' (S t) 2, upd xl (S t) (nI nl), xc, upd xh' r (nI (S t)), xw, xz)) → ((∃ n, wL_law_1027 post L xs0 J98 J197 (nI nc) (nI nr) w0 w1 w2 w3 o0 o1 o2 o3 cu rm be st (nI ck) kk aa bb op (nI c) dd r0 re 0 jj (nI r) pa pr 2 (nI (pb_f cu (8 * c) 8)) kc ks (nI nc) (nI nr) (nI nl) (nI nt) (nI ck) (nI bg) ph xs xp xq (upd xg (c * 8 + r) 2) xv xf' xl xc (upd xh' r (nI (S t))) xw xz n bo de dn 1) → Z 0 (nI nc, nI nr, nI nl, nI nt, nI ck, nI bg, ph, xs, xp, xq, upd xg (c * 8 + r) 2, xv, xf', xl, xc, upd xh' r (nI (S t)), xw, xz)) → ((∃ n, wL_law_1027 post L xs0 J98 J197 (nI nc) (nI nr) w0 w1 w2 w3 o0 o1 o2 o3 cu rm be st (nI ck) kk aa bb op (nI c) dd r0 re 0 jj (nI r) pa pr 2 (nI (pb_f cu (8 * c) 8)) kc ks (nI nc) (nI nr) (nI nl) (nI nt) (nI ck) (nI bg) ph xs xp xq (upd xg (c * 8 + r) 2) xv xf' xl xc xh' xw xz n bo de dn 1) → Z 0 (nI nc, nI nr, nI nl, nI nt, nI ck, nI bg, ph, xs, xp, xq, upd xg (c * 8 + r) 2, xv, xf', xl, xc, xh', xw, xz)) →
                  (ph c = 1 → wX_prewrite_138 Z (nI c) (nI r) (nI nc) (nI nr) (nI nl) (nI nt) (nI ck) (nI bg) (upd ph c 2) xs xp (upd xq c (nI r)) (upd xg (c * 8 + r) 2) xv (upd xf' (S t) 2) (upd xl (S t) (nI nl)) xc xh' xw xz) ∧ (¬ ph c = 1 → wX_prewrite_138 Z (nI c) (nI r) (nI nc) (nI nr) (nI nl) (nI nt) (nI ck) (nI bg) ph xs xp xq (upd xg (c * 8 + r) 2) xv xf' xl xc xh' xw xz) := by
                intro Z z1 z2 z3
                refine br_c (fun p1 => ?_) (fun p1 => ?_)
                · obtain ⟨f1, hP, _⟩ := pl_ok1 ok p1
                  have f1' : yf' t = 1 := ey.trans f1
                  simp (disch := omega) only [wX_prewrite_138, es, pl_us, pl_cc, pl_vc, pl_le8, pl_le32, pl_lt64, pl_lt1, pl_lt8, pl_lt32, nI_pos, nI_pos', vp_in_nI, nI_clamp, nI_1, nI_leI, nI_ltI, nI_eq, forall_eq, true_implies, forall_const, not_true_eq_false, not_false_eq_true, false_implies, and_true, true_and, implies_true, and_self, eq_self]
                  have H1 := pl_pend H' (by omega) m1 p1 hr
                  have H2 := pl_hold H1 (by omega) m1 pl_us pl_us hr hh g0
                  have HI1 := lw_i_fate (t := t) (y := 2) HI' (Or.inr hP) (Or.inl rfl) (fun _ => hP) (by rw [f1']; decide)
                  have HI2 := lw_i_stg H1 (x := 2) hc m1 hr g0 (fun _ => hP) (Or.inl rfl) HI1
                  refine z1 (lw_go H2 HI2 hJ (lw_sb _ _) (fun q lq => ?_) hF (fun a => absurd a (by decide)) (fun a => absurd a (by decide)))
                  by_cases e : q = t
                  · subst e
                    have b : lw_bt bo de dn (S q) false false false := by
                      rcases kp q lt with ⟨_, y⟩ | ⟨y, _⟩ | ⟨y, _⟩ | ⟨y, _⟩
                      · exact y
                      · rw [y] at f1; exact absurd f1 (by decide)
                      · rw [y] at f1; exact absurd f1 (by decide)
                      · rw [y] at f1; exact absurd f1 (by decide)
                    exact Or.inr (Or.inl ⟨pl_us, b, rfl, rfl, eC.symm⟩)
                  · rcases hq q lq with y | ⟨_, y1, y2⟩
                    · refine Or.inl ?_
                      unfold lw_kp at y ⊢
                      rw [pl_un e]
                      exact y
                    · exact Or.inr (Or.inr (Or.inl ⟨by rw [pl_un e]; exact y1, y2⟩))
                · have p2 : ph c = 2 := by
                    unfold pl_ok at ok
                    rcases ok with z | z | z | z
                    · exact absurd z.1 p1
                    · exact z.1
                    · exact absurd z.1 p3
                    · exact absurd z.1 p4
                  have hP := (pl_ok2 ok p2).2
                  have HI2 := lw_i_stg H' (x := 2) hc m1 hr g0 (fun _ => hP) (Or.inl rfl) HI'
                  by_cases f2 : yf' t = 2
                  · simp (disch := omega) only [wX_prewrite_138, es, ef', f2, pl_cc, pl_vc, pl_le8, pl_le32, pl_lt64, pl_lt1, pl_lt8, pl_lt32, nI_pos, nI_pos', vp_in_nI, nI_clamp, nI_1, nI_leI, nI_ltI, nI_eq, forall_eq, true_implies, forall_const, not_true_eq_false, not_false_eq_true, false_implies, and_true, true_and, implies_true, and_self, eq_self]
                    exact z2 (lw_go (pl_hold H' (by omega) m1 p2 f2 hr hh g0) HI2 hJ (lw_sb _ _) (hst 0 _) hF (fun a => absurd a (by decide)) (fun a => absurd a (by decide)))
                  · simp (disch := omega) only [wX_prewrite_138, es, ef', f2, pl_cc, pl_vc, pl_le8, pl_le32, pl_lt64, pl_lt1, pl_lt8, pl_lt32, nI_pos, nI_pos', vp_in_nI, nI_clamp, nI_1, nI_leI, nI_ltI, nI_eq, forall_eq, true_implies, forall_const, not_true_eq_false, not_false_eq_true, false_implies, and_true, true_and, implies_true, and_self, eq_self]
                    exact z3 (lw_go (pl_stg H' (by omega) m1 p1 f2 hr g0 (by decide)) HI2 hJ (lw_sb _ _) (hst 0 _) hF (fun a => absurd a (by decide)) (fun a => absurd a (by decide)))
              rcases pl_new H' (r := r) (by omega) (fun _ => True) with ⟨t2, lt2, f3, g3, _, k1, k2, ep, hw, ez, hz, _⟩ | ⟨hz, _⟩
              · refine px_new_s (by omega) k1 k2 hw (nI_le (b := 64) k2 (by decide)) (fun q a b _ => hz q a b trivial) ?_
                by_cases le : P t2 ≤ S t
                · simp (disch := omega) only [wpX_makePending, es, le, pl_cc, pl_vc, pl_le8, pl_le32, pl_lt64, pl_lt1, pl_lt8, pl_lt32, nI_pos, nI_pos', vp_in_nI, nI_clamp, nI_1, nI_leI, nI_ltI, nI_eq, forall_eq, true_implies, forall_const, not_true_eq_false, not_false_eq_true, false_implies, and_true, true_and, implies_true, and_self, eq_self]
                  exact fin _ (fun z => z) (fun z => z) (fun z => z)
                · simp (disch := omega) only [le, pl_cc, pl_vc, pl_le8, pl_le32, pl_lt64, pl_lt1, pl_lt8, pl_lt32, nI_pos, nI_pos', vp_in_nI, nI_clamp, nI_1, nI_leI, nI_ltI, nI_eq, forall_eq, true_implies, forall_const, not_true_eq_false, not_false_eq_true, false_implies, and_true, true_and, implies_true, and_self, eq_self]
                  exact lw_go H' HI' hJ (lw_sb _ _) (hst (-10) _) hF (fun a => absurd a (by decide)) (fun a => absurd a (by decide))
              · refine px_new_n (by omega) (fun q a b _ => hz q a b trivial) ?_
                have le : (-1 : Int32) ≤ nI (S t) := Int32.le_trans (by decide : (-1 : Int32) ≤ 0) (nI_pos' (by omega))
                simp (disch := omega) only [wpX_makePending, es, le, pl_cc, pl_vc, pl_le8, pl_le32, pl_lt64, pl_lt1, pl_lt8, pl_lt32, nI_pos, nI_pos', vp_in_nI, nI_clamp, nI_1, nI_leI, nI_ltI, nI_eq, forall_eq, true_implies, forall_const, not_true_eq_false, not_false_eq_true, false_implies, and_true, true_and, implies_true, and_self, eq_self]
                exact fin _ (fun z => z) (fun z => z) (fun z => z)
end LWG
end
section
section LWH
variable {nc nr nl nt ck bg : Nat} {S P M : Nat → Nat} {ph xs xp xq xg xv xf xl xc xh xw xz ym yf ys yp yq yl yg yv : Nat → Int32}
variable {w0 w1 w2 w3 o0 o1 o2 o3 cu rm be bo de dn st : Int64} {kk aa bb op cc dd r0 re an jj rr pa pr kd : Int32} {kc ks L s : Nat} {xs0 : Nat → Int32} {post : Int32 → Prop} {J98 : lw_T98} {J197 : lw_T197}
/-! read -/
theorem lw_vex (H : pl_R nc nr nl nt ck bg S P M ph xs xp xq xg xv xf xl xc xh xw xz ym yf ys yp yq yl yg yv) {r : Nat} (hr : r < nr) (a : Nat) : ∃ vt v, lw_Ver bg P yf yg yv r a vt v := by
  have hb := pl_b H
  rcases pl_new H (r := r) (by omega) (fun p => p ≤ a) with ⟨t, lt, f3, g, le, _, _, _, _, _, _, hm⟩ | ⟨_, hn⟩
  · refine ⟨_, _, Or.inr ⟨t, lt, f3, g, le, rfl, rfl, fun t' lt' f' g' l' => ?_⟩⟩
    by_cases e : t' = t
    · rw [e]; exact Nat.le_refl _
    · exact Nat.le_of_lt (hm t' (by omega) f' g' l' e)
  · exact ⟨-1, -1, Or.inl ⟨rfl, rfl, fun t lt f g => hn t (by omega) f g⟩⟩
theorem lw_vb (H : pl_R nc nr nl nt ck bg S P M ph xs xp xq xg xv xf xl xc xh xw xz ym yf ys yp yq yl yg yv) (HI : lw_I nc nr nt ck bg S P M yf yg yv w0 w1 w2 w3 o0 o1 o2 o3 cu rm be st) {r a : Nat} {vt v : Int32} (hr : r < nr) (hV : lw_Ver bg P yf yg yv r a vt v) : ¬ v < -1 ∧ ¬ v = -11 := by
  have hb := pl_b H
  have i2 := HI.2.1
  have i3 := HI.2.2.1
  have key : ¬ v < -1 := by
    rcases hV with ⟨_, e, _⟩ | ⟨t, lt, f3, g, _, _, e, _⟩
    · rw [e]; decide
    · obtain ⟨w1', w2'⟩ := HI.2.2.2.2.2.2.1.1 r t hr lt
      have l := (H.2.1 t lt).2.2
      have fl := pb_fl (lw_W w0 w1 w2 w3 r) (2 * (S t - 1)) 2
      rw [e, w2' (fun y => g (w1'.mp y))]
      exact (lw_vr (by omega) (by omega) (by omega)).1
  exact ⟨key, fun y => key (by rw [y]; decide)⟩
theorem lw_tail (H : pl_R nc nr nl nt ck bg S P M ph xs xp xq xg xv xf xl xc xh xw xz ym yf ys yp yq yl yg yv) (HI : lw_I nc nr nt ck bg S P M yf yg yv w0 w1 w2 w3 o0 o1 o2 o3 cu rm be st) {r t : Nat} (hr : r < nr) (lt : t < bg) {Z : Int32 → St2 → Prop}
    (hZ : ∀ v : Int32, (∀ p : Int32 → Prop, p v → wpX_peek p (nI nc, nI nr, nI nl, nI nt, nI ck, nI bg, ph, xs, xp, xq, xg, xv, xf, xl, xc, xh, xw, xz) (nI r) (nI (S t))) → ¬ v < -1 → ¬ v = -11 → Z v (nI nc, nI nr, nI nl, nI nt, nI ck, nI bg, ph, xs, xp, xq, xg, xv, xf, xl, xc, xh, xw, xz)) : wX_read_59 Z (nI r) (nI (S t)) (nI nc) (nI nr) (nI nl) (nI nt) (nI ck) (nI bg) ph xs xp xq xg xv xf xl xc xh xw xz := by
  have hb := pl_b H
  have hr' : ¬ nr ≤ r := by omega
  have lS := (H.2.1 t lt).2.2
  obtain ⟨vt, v, hV⟩ := lw_vex H hr (S t)
  obtain ⟨b1, b2⟩ := lw_vb H HI hr hV
  have kP := (lw_ver H (z := nI (S t)) hr hV (fun q l1 l2 => nI_leI (by omega) (by omega))).2
  have k := kP (fun r_47 => Z r_47 (nI nc, nI nr, nI nl, nI nt, nI ck, nI bg, ph, xs, xp, xq, xg, xv, xf, xl, xc, xh, xw, xz)) (hZ v kP b1 b2)
  simp (disch := omega) only [wpX_peek, wpX_isRow, hr, hr', pl_nq, pl_cc, pl_vc, pl_le8, pl_le32, pl_lt64, pl_lt1, pl_lt8, pl_lt32, nI_pos, nI_pos', vp_in_nI, nI_clamp, nI_1, nI_leI, nI_ltI, nI_eq, forall_eq, true_implies, forall_const, not_true_eq_false, not_false_eq_true, false_implies, and_true, true_and, implies_true, and_self, eq_self] at k
  unfold wX_read_59
  exact k
theorem lw_k5 (H : pl_R nc nr nl nt ck bg S P M ph xs xp xq xg xv xf xl xc xh xw xz ym yf ys yp yq yl yg yv) (HI : lw_I nc nr nt ck bg S P M yf yg yv w0 w1 w2 w3 o0 o1 o2 o3 cu rm be st) (kp : ∀ t, t < bg → lw_kp S yf bo de dn t) (hF : lw_F ck bo de dn) (hJ : lw_HJ nc nr jj J197) {c r : Nat} (hc : c < nc) (hr : r < nr) : wL_law_465 post L xs0 J98 J197 (nI nc) (nI nr) w0 w1 w2 w3 o0 o1 o2 o3 cu rm be bo de dn st (nI ck) kk aa bb op (nI c) dd r0 re jj (nI r) pa pr 5 kc ks (nI nc) (nI nr) (nI nl) (nI nt) (nI ck) (nI bg) ph xs xp xq xg xv xf xl xc xh xw xz := by
  have hb := pl_b H
  have hc' : ¬ nc ≤ c := by omega
  have hr' : ¬ nr ≤ r := by omega
  have i2 := HI.2.1
  have i3 := HI.2.2.1
  unfold wL_law_465
  refine lw_at (by omega) (br_f (by decide) (br_f (by decide) (br_f (by decide) (br_f (by decide) (br_f (by decide) (br_t rfl ?_))))))
  rcases pl_cl H (c := c) (by omega) with ⟨m0, p0, _⟩ | ⟨t, m1, lt, p0, em, es, et, l1, l2, ef, ok, eq, eq', eg, _⟩
  · simp (disch := omega) only [wpX_read, wpX_isClient, wpX_isRow, hc, hc', hr, hr', p0, lw_neg, pl_nq, pl_cc, pl_vc, pl_le8, pl_le32, pl_lt64, pl_lt1, pl_lt8, pl_lt32, nI_pos, nI_pos', vp_in_nI, nI_clamp, nI_1, nI_leI, nI_ltI, nI_eq, forall_eq, true_implies, forall_const, not_true_eq_false, not_false_eq_true, false_implies, and_true, true_and, implies_true, and_self, eq_self]
    exact lw_same H HI hJ (lw_sb _ _) kp hF (fun y => absurd y (by decide)) (by decide)
  · have eC := HI.2.2.2.2.2.1 c t hc m1
    have lS := (H.2.1 t lt).2.2
    have nS : ¬ nI (S t) = 0 := nI_ne0 (by omega) (by omega)
    rw [eC]
    have hst0 : ∀ (an : Int32) (m : Int64) (q : Nat), q < bg → lw_sta nr S P yf yg bo de dn m 5 an (S t) (nI r) pr pa q := fun _ _ q lq => Or.inl (kp q lq)
    -- who still holds the row began later than the reader
    have cond : ∀ (xf' xh' yf' : Nat → Int32), pl_R nc nr nl nt ck bg S P M ph xs xp xq xg xv xf' xl xc xh' xw xz ym yf' ys yp yq yl yg yv → lw_I nc nr nt ck bg S P M yf' yg yv w0 w1 w2 w3 o0 o1 o2 o3 cu rm be st → (∀ t1, t1 < bg → yf' t1 = 2 → yg (t1 * 8 + r) = 2 → S t ≤ S t1) → ∀ t1, t1 < bg → yf' t1 = 2 → P t1 ≠ 0 → yg (t1 * 8 + r) ≠ 0 → S t < P t1 := by
      intro xf' xh' yf' H' HI' h t1 lt1 f2 p g
      obtain ⟨_, k2, _, k4⟩ := HI'.2.2.2.2.2.2.2.2.2 t1 lt1
      have a := k2 p
      rcases k4 f2 p r (by omega) with y | y
      · exact absurd y g
      · have := h t1 lt1 f2 y
        omega
    rcases pl_hd H hr with ⟨e, z⟩ | ⟨t1, lt1, f2, g2, e, et1, l11, l12, el, z⟩
    · have q : ¬ nI (S t) ≤ -1 := Int32.not_le.mpr (Int32.lt_of_lt_of_le (by decide : (-1 : Int32) < 0) (nI_pos' (by omega)))
      simp (disch := omega) only [wpX_read, wpX_isClient, wpX_isRow, hc, hc', hr, hr', p0, es, e, q, pl_nq, pl_cc, pl_vc, pl_le8, pl_le32, pl_lt64, pl_lt1, pl_lt8, pl_lt32, nI_pos, nI_pos', vp_in_nI, nI_clamp, nI_1, nI_leI, nI_ltI, nI_eq, forall_eq, true_implies, forall_const, not_true_eq_false, not_false_eq_true, false_implies, and_true, true_and, implies_true, and_self, eq_self]
      refine px_clear H hr (fun t' a b d _ _ _ => absurd d (z t' (by omega) b)) ?_
      intro xf' xh' yf' H' hh lk
      have ey : yf' = yf := by
        rcases lk with ⟨e', _⟩ | ⟨t', a, b, d, _⟩
        · exact e'
        · exact absurd d (z t' (by omega) b)
      subst ey
      simp (disch := omega) only [pl_nq, pl_cc, pl_vc, pl_le8, pl_le32, pl_lt64, pl_lt1, pl_lt8, pl_lt32, nI_pos, nI_pos', vp_in_nI, nI_clamp, nI_1, nI_leI, nI_ltI, nI_eq, forall_eq, true_implies, forall_const, not_true_eq_false, not_false_eq_true, false_implies, and_true, true_and, implies_true, and_self, eq_self]
      refine lw_tail H' HI hr lt ?_
      intro v kP nv n11
      refine br_f nv (br_f nS (kP _ (br_t rfl (lw_at (by omega) ?_))))
      refine br_c (fun _ => lw_go H' HI hJ (by omega) (hst0 _ rm) hF (fun a => absurd a (by decide)) (fun a => absurd a n11)) (fun _ => lw_with (c := r) (v := S t) (by omega) ?_)
      exact lw_go H' (lw_i_rm hr lS (by omega) (cond xf' xh' yf' H' HI (fun t1 lt1 f g => absurd g (z t1 (by omega) f))) HI) hJ (by omega) (hst0 _ _) hF (fun a => absurd a (by decide)) (fun a => absurd a n11)
    · by_cases q : S t ≤ S t1
      · simp (disch := omega) only [wpX_read, wpX_isClient, wpX_isRow, hc, hc', hr, hr', p0, es, e, q, pl_nq, pl_cc, pl_vc, pl_le8, pl_le32, pl_lt64, pl_lt1, pl_lt8, pl_lt32, nI_pos, nI_pos', vp_in_nI, nI_clamp, nI_1, nI_leI, nI_ltI, nI_eq, forall_eq, true_implies, forall_const, not_true_eq_false, not_false_eq_true, false_implies, and_true, true_and, implies_true, and_self, eq_self]
        refine lw_tail H HI hr lt ?_
        intro v kP nv n11
        refine br_f nv (br_f nS (kP _ (br_t rfl (lw_at (by omega) ?_))))
        refine br_c (fun _ => lw_go H HI hJ (by omega) (hst0 _ rm) hF (fun a => absurd a (by decide)) (fun a => absurd a n11)) (fun _ => lw_with (c := r) (v := S t) (by omega) ?_)
        exact lw_go H (lw_i_rm hr lS (by omega) (cond xf xh yf H HI (fun t2 lt2 f g => by rw [z t2 (by omega) f g]; exact q)) HI) hJ (by omega) (hst0 _ _) hF (fun a => absurd a (by decide)) (fun a => absurd a n11)
      · simp (disch := omega) only [wpX_read, wpX_isClient, wpX_isRow, hc, hc', hr, hr', p0, es, e, q, pl_nq, pl_cc, pl_vc, pl_le8, pl_le32, pl_lt64, pl_lt1, pl_lt8, pl_lt32, nI_pos, nI_pos', vp_in_nI, nI_clamp, nI_1, nI_leI, nI_ltI, nI_eq, forall_eq, true_implies, forall_const, not_true_eq_false, not_false_eq_true, false_implies, and_true, true_and, implies_true, and_self, eq_self]
        refine px_clear H hr (fun t' a b d m e' z' => ?_) ?_
        · simp (disch := omega) only [lw_neg, pl_cc, pl_vc, pl_le8, pl_le32, pl_lt64, pl_lt1, pl_lt8, pl_lt32, nI_pos, nI_pos', vp_in_nI, nI_clamp, nI_1, nI_leI, nI_ltI, nI_eq, forall_eq, true_implies, forall_const, not_true_eq_false, not_false_eq_true, false_implies, and_true, true_and, implies_true, and_self, eq_self]
          exact lw_same H HI hJ (by omega) kp hF (fun y => absurd y (by decide)) (by decide)
        · intro xf' xh' yf' H' hh lk
          have ne : t1 ≠ t := fun y => q (by rw [y]; exact Nat.le_refl _)
          obtain ⟨HI', ey, hq⟩ := lw_lk (kd := 5) (s := S t) kp H.2.2.1 lt lk (Or.inr rfl) rfl (fun t2 lt2 f g y => ne (by rw [← y]; exact (z t2 (by omega) f g).symm)) HI
          have hst : ∀ (an : Int32) (m : Int64) (q : Nat), q < bg → lw_sta nr S P yf' yg bo de dn m 5 an (S t) (nI r) pr pa q := fun _ _ q lq => (hq q lq).elim Or.inl (fun y => Or.inr (Or.inr (Or.inl y.2)))
          have nh : ∀ t2, t2 < bg → yf' t2 = 2 → ¬ yg (t2 * 8 + r) = 2 := by
            intro t2 lt2 f g
            have y := H'.2.2.2.2.2.2.2.2.2.2.2.2.2.2.2.2.2.1 r t2 hr lt2 f g
            rw [hh] at y
            have := (H.2.1 t2 lt2).2.2
            exact pl_ne1 (by omega) y.symm
          simp (disch := omega) only [pl_nq, pl_cc, pl_vc, pl_le8, pl_le32, pl_lt64, pl_lt1, pl_lt8, pl_lt32, nI_pos, nI_pos', vp_in_nI, nI_clamp, nI_1, nI_leI, nI_ltI, nI_eq, forall_eq, true_implies, forall_const, not_true_eq_false, not_false_eq_true, false_implies, and_true, true_and, implies_true, and_self, eq_self]
          refine lw_tail H' HI' hr lt ?_
          intro v kP nv n11
          refine br_f nv (br_f nS (kP _ (br_t rfl (lw_at (by omega) ?_))))
          refine br_c (fun _ => lw_go H' HI' hJ (by omega) (hst _ rm) hF (fun a => absurd a (by decide)) (fun a => absurd a n11)) (fun _ => lw_with (c := r) (v := S t) (by omega) ?_)
          exact lw_go H' (lw_i_rm hr lS (by omega) (cond xf' xh' yf' H' HI' (fun t2 lt2 f g => absurd g (nh t2 lt2 f))) HI') hJ (by omega) (hst _ _) hF (fun a => absurd a (by decide)) (fun a => absurd a n11)
/-! one call of any kind -/
theorem lw_call (H : pl_R nc nr nl nt ck bg S P M ph xs xp xq xg xv xf xl xc xh xw xz ym yf ys yp yq yl yg yv) (HI : lw_I nc nr nt ck bg S P M yf yg yv w0 w1 w2 w3 o0 o1 o2 o3 cu rm be st) (kp : ∀ t, t < bg → lw_kp S yf bo de dn t) (hF : lw_F ck bo de dn) (hJ : lw_HJ nc nr jj J197) {c : Nat} (hc : c < nc)
    (hk : ∃ n, n ≤ 9 ∧ kd = nI n) (hr : (∃ r, r < nr ∧ rr = nI r) ∨ kd = 4) (hpa : pa = ph c) (hpr : pr = xq c)
    (hq : ∃ q, 1 ≤ q ∧ q ≤ 3 ∧ 1 + (((((bb >>> ((3 : Int32) &&& 31)) + (aa >>> ((5 : Int32) &&& 31))) + kk) + jj) - ((((bb >>> ((3 : Int32) &&& 31)) + (aa >>> ((5 : Int32) &&& 31))) + kk) + jj) / 3 * 3) = nI q) : wL_law_465 post L xs0 J98 J197 (nI nc) (nI nr) w0 w1 w2 w3 o0 o1 o2 o3 cu rm be bo de dn st (nI ck) kk aa bb op (nI c) dd r0 re jj rr pa pr kd kc ks (nI nc) (nI nr) (nI nl) (nI nt) (nI ck) (nI bg) ph xs xp xq xg xv xf xl xc xh xw xz := by
  obtain ⟨n, ln, rfl⟩ := hk
  have hr' : n ≠ 4 → ∃ r, r < nr ∧ rr = nI r := fun ne => hr.elim id (fun y => absurd (pl_im (b := 4) y (by omega) (by decide)) ne)
  have h : n = 0 ∨ n = 1 ∨ n = 2 ∨ n = 3 ∨ n = 4 ∨ n = 5 ∨ n = 6 ∨ n = 7 ∨ n = 8 ∨ n = 9 := by omega
  rcases h with h | h | h | h | h | h | h | h | h | h
  · subst h; exact lw_k0 H HI kp hF hJ hc
  · subst h
    obtain ⟨r, lr, rfl⟩ := hr' (by decide)
    exact lw_k1 H HI kp hF hJ hc lr hq
  · subst h
    obtain ⟨r, lr, rfl⟩ := hr' (by decide)
    exact lw_k2 H HI kp hF hJ hc lr
  · subst h; exact lw_k3 H HI kp hF hJ hc
  · subst h; exact lw_k4 H HI kp hF hJ hc hpa hpr
  · subst h
    obtain ⟨r, lr, rfl⟩ := hr' (by decide)
    exact lw_k5 H HI kp hF hJ hc lr
  · subst h; exact lw_k6 H HI kp hF hJ hc
  · subst h; exact lw_k7 H HI kp hF hJ hc
  · subst h; exact lw_k8 H HI kp hF hJ hc
  · subst h; exact lw_k9 H HI kp hF hJ hc
end LWH
end
section
section LWI
variable {nc nr nl nt ck bg : Nat} {S P M : Nat → Nat} {ph xs xp xq xg xv xf xl xc xh xw xz ym yf ys yp yq yl yg yv : Nat → Int32}
variable {w0 w1 w2 w3 o0 o1 o2 o3 cu rm be bo de dn st : Int64} {kk aa bb op cc dd r0 re an jj rr pa pr kd : Int32} {kc ks L s : Nat} {xs0 : Nat → Int32} {post : Int32 → Prop} {J98 : lw_T98} {J197 : lw_T197}
theorem pl_lk5 : (¬ (0 : Int32) < 0) ∧ ((0 : Int32) ≤ 5) ∧ (¬ (1 : Int32) < 0) ∧ ((1 : Int32) ≤ 5) ∧ (¬ (2 : Int32) < 0) ∧ ((2 : Int32) ≤ 5) ∧ (¬ (3 : Int32) < 0) ∧ ((3 : Int32) ≤ 5) ∧ (¬ (4 : Int32) < 0) ∧ ((4 : Int32) ≤ 5) ∧ (¬ (5 : Int32) < 0) ∧ ((5 : Int32) ≤ 5) ∧ (¬ (5 : Int32) = 0) ∧ (¬ (0 : Int32) = 5) ∧ (¬ (5 : Int32) = 1) ∧ (¬ (1 : Int32) = 5) ∧ (¬ (5 : Int32) = 2) ∧ (¬ (2 : Int32) = 5) ∧ (¬ (5 : Int32) = 3) ∧ (¬ (3 : Int32) = 5) ∧ (¬ (5 : Int32) = 4) ∧ (¬ (4 : Int32) = 5) := by decide
theorem px_look0 (H : pl_R nc nr nl nt ck bg S P M ph xs xp xq xg xv xf xl xc xh xw xz ym yf ys yp yq yl yg yv) {c : Nat} (hc : c < nc) {p : Int32 → Prop} {z : Int32} (h : p (ph c)) : wpX_look p (nI nc, nI nr, nI nl, nI nt, nI ck, nI bg, ph, xs, xp, xq, xg, xv, xf, xl, xc, xh, xw, xz) (nI c) 0 z := by
  have hb := pl_b H
  have hc' : ¬ nc ≤ c := by omega
  simp (disch := omega) only [wpX_look, wpX_isClient, hc, hc', pl_lk5, pl_nq, pl_cc, pl_vc, pl_le8, pl_le32, pl_lt64, pl_lt1, pl_lt8, pl_lt32, nI_pos, nI_pos', vp_in_nI, nI_clamp, nI_1, nI_leI, nI_ltI, nI_eq, forall_eq, true_implies, forall_const, not_true_eq_false, not_false_eq_true, false_implies, and_true, true_and, implies_true, and_self, eq_self]
  exact h
theorem px_look3 (H : pl_R nc nr nl nt ck bg S P M ph xs xp xq xg xv xf xl xc xh xw xz ym yf ys yp yq yl yg yv) {c : Nat} (hc : c < nc) {p : Int32 → Prop} {z : Int32} (h : p (xq c)) : wpX_look p (nI nc, nI nr, nI nl, nI nt, nI ck, nI bg, ph, xs, xp, xq, xg, xv, xf, xl, xc, xh, xw, xz) (nI c) 3 z := by
  have hb := pl_b H
  have hc' : ¬ nc ≤ c := by omega
  simp (disch := omega) only [wpX_look, wpX_isClient, hc, hc', pl_lk5, pl_nq, pl_cc, pl_vc, pl_le8, pl_le32, pl_lt64, pl_lt1, pl_lt8, pl_lt32, nI_pos, nI_pos', vp_in_nI, nI_clamp, nI_1, nI_leI, nI_ltI, nI_eq, forall_eq, true_implies, forall_const, not_true_eq_false, not_false_eq_true, false_implies, and_true, true_and, implies_true, and_self, eq_self]
  exact h
theorem px_look4 (H : pl_R nc nr nl nt ck bg S P M ph xs xp xq xg xv xf xl xc xh xw xz ym yf ys yp yq yl yg yv) {c r : Nat} (hc : c < nc) (hr : r < nr) {p : Int32 → Prop} (h : p (xg (c * 8 + r))) : wpX_look p (nI nc, nI nr, nI nl, nI nt, nI ck, nI bg, ph, xs, xp, xq, xg, xv, xf, xl, xc, xh, xw, xz) (nI c) 4 (nI r) := by
  have hb := pl_b H
  have hc' : ¬ nc ≤ c := by omega
  have hr' : ¬ nr ≤ r := by omega
  simp (disch := omega) only [wpX_look, wpX_isClient, wX_look_30, wpX_isRow, wpX_lookAtRow, wpX_clientCell, hc, hc', hr, hr', pl_lk5, pl_nq, pl_cc, pl_vc, pl_le8, pl_le32, pl_lt64, pl_lt1, pl_lt8, pl_lt32, nI_pos, nI_pos', vp_in_nI, nI_clamp, nI_1, nI_leI, nI_ltI, nI_eq, forall_eq, true_implies, forall_const, not_true_eq_false, not_false_eq_true, false_implies, and_true, true_and, implies_true, and_self, eq_self]
  exact h
/-! the search for a row of the wanted stage -/
theorem lw_wl (H : pl_R nc nr nl nt ck bg S P M ph xs xp xq xg xv xf xl xc xh xw xz ym yf ys yp yq yl yg yv) {c : Nat} {f w : Int32} (hc : c < nc) (call : ∀ kd rr, (∃ n, n ≤ 9 ∧ kd = nI n) → (∃ r, r < nr ∧ rr = nI r) → wL_law_465 post L xs0 J98 J197 (nI nc) (nI nr) w0 w1 w2 w3 o0 o1 o2 o3 cu rm be bo de dn st (nI ck) kk aa bb op (nI c) dd r0 re jj rr pa pr kd kc ks (nI nc) (nI nr) (nI nl) (nI nt) (nI ck) (nI bg) ph xs xp xq xg xv xf xl xc xh xw xz) : ∀ d n r, n + d = nr → r < nr → wL_law_408 post L xs0 J98 J197 (nI nc) (nI nr) w0 w1 w2 w3 o0 o1 o2 o3 cu rm be bo de dn st (nI ck) kk aa bb op (nI c) dd r0 re jj pa pr f w kc ks (nI nc) (nI nr) (nI nl) (nI nt) (nI ck) (nI bg) ph xs xp xq xg xv xf xl xc xh xw xz (d + 1) (nI r) (nI n) := by
  have hb := pl_b H
  have fin : ∀ n r, r < nr → wL_law_443 post L xs0 J98 J197 (nI nc) (nI nr) w0 w1 w2 w3 o0 o1 o2 o3 cu rm be bo de dn st (nI ck) kk aa bb op (nI c) dd r0 re jj (nI r) pa pr f (nI n) kc ks (nI nc) (nI nr) (nI nl) (nI nt) (nI ck) (nI bg) ph xs xp xq xg xv xf xl xc xh xw xz := by
    intro n r lr
    unfold wL_law_443
    exact br_c (fun _ => call _ _ ⟨3, by decide, rfl⟩ ⟨r, lr, rfl⟩) (fun _ => br_c (fun _ => call _ _ ⟨4, by decide, rfl⟩ ⟨r, lr, rfl⟩) (fun _ => call _ _ ⟨2, by decide, rfl⟩ ⟨r, lr, rfl⟩))
  intro d
  induction d with
  | zero =>
    intro n r hn lr
    exact br_t (nI_le (by omega) (by omega)) (fin n r lr)
  | succ d ih =>
    intro n r hn lr
    rw [wL_law_408]
    refine br_f (nI_ge (by omega) (by omega)) (px_look4 H hc lr (br_c (fun _ => fin n r lr) (fun _ => ⟨nI_ne0 (by omega) (by omega), ?_⟩)))
    rw [nI_1, pk_rem (by omega) (by omega) (by omega)]
    exact nm_e (nm_r (nI_1 n) (ih (n + 1) ((r + 1) % nr) (by omega) (Nat.mod_lt _ (by omega))))
/-! the inner loop -/
theorem lw_jl {c d0 r00 rn a b k o : Nat} (hc : c < nc) (hnc : nc ≤ 8) (hn1 : 2 ≤ nr) (hn : nr ≤ 4) (ha : a < 2 ^ 31) (hbb : b < 2 ^ 31) (hk : k ≤ 1000) (hd : d0 ≤ 1) (hr0 : r00 < nr) (hrn : rn ≤ 7) (ho : o ≤ 15)
    (hJ98 : ∀ (w0 w1 w2 w3 o0 o1 o2 o3 cu rm be bo de dn st : Int64) (la f0 f1 f2 f3 f4 f5 : Int32) (ph xs xp xq xg xv xf xl xc xh xw xz : Nat → Int32), lw_Jv nc nr w0 w1 w2 w3 o0 o1 o2 o3 cu rm be bo de dn st la f0 f1 f2 f3 f4 f5 ph xs xp xq xg xv xf xl xc xh xw xz → J98 w0 w1 w2 w3 o0 o1 o2 o3 cu rm be bo de dn st la (nI k + 2) f0 f1 f2 f3 f4 f5 ph xs xp xq xg xv xf xl xc xh xw xz) :
    ∀ (d j : Nat) (w0 w1 w2 w3 o0 o1 o2 o3 cu rm be bo de dn st : Int64) (la an f0 f1 f2 f3 f4 f5 : Int32) (ph xs xp xq xg xv xf xl xc xh xw xz : Nat → Int32), j + d = rn → lw_Jv nc nr w0 w1 w2 w3 o0 o1 o2 o3 cu rm be bo de dn st la f0 f1 f2 f3 f4 f5 ph xs xp xq xg xv xf xl xc xh xw xz → wL_law_197 post L xs0 J98 (nI nc) (nI nr) (nI k) (nI a) (nI b) (nI o) (nI c) (nI d0) (nI r00) (nI rn) kc ks (d + 1) w0 w1 w2 w3 o0 o1 o2 o3 cu rm be bo de dn st la an (nI j) f0 f1 f2 f3 f4 f5 ph xs xp xq xg xv xf xl xc xh xw xz := by
  intro d
  induction d with
  | zero =>
    intro j w0 w1 w2 w3 o0 o1 o2 o3 cu rm be bo de dn st la an f0 f1 f2 f3 f4 f5 ph xs xp xq xg xv xf xl xc xh xw xz hj h
    refine br_t (nI_le (by omega) (by omega)) (nm_e ?_)
    exact hJ98 _ _ _ _ _ _ _ _ _ _ _ _ _ _ _ _ _ _ _ _ _ _ _ _ _ _ _ _ _ _ _ _ _ _ h
  | succ d ih =>
    intro j w0 w1 w2 w3 o0 o1 o2 o3 cu rm be bo de dn st la an f0 f1 f2 f3 f4 f5 ph xs xp xq xg xv xf xl xc xh xw xz hj h
    obtain ⟨nl, nt, ck, bg, S, P, M, ym, yf, ys, yp, yq, yl, yg, yv, rfl, rfl, rfl, rfl, rfl, rfl, rfl, H, HI, kp, hF⟩ := h
    have hb := pl_b H
    rw [wL_law_197]
    refine br_f (nI_ge (by omega) (by omega)) ⟨nI_ne0 (by omega) (by omega), ?_⟩
    have e1 : nI r00 + nI j * nI d0 = nI (r00 + j * d0) := by rw [pl_mul, nI_add]
    have lj : j * d0 ≤ 7 * 1 := Nat.mul_le_mul (by omega) hd
    rw [e1, pk_rem (by omega) (by omega) (by omega)]
    have lr : (r00 + j * d0) % nr < nr := Nat.mod_lt _ (by omega)
    refine nm_e (px_look0 H hc (px_look3 H hc ?_))
    have hJ : lw_HJ nc nr (nI j) (wL_law_197 post L xs0 J98 (nI nc) (nI nr) (nI k) (nI a) (nI b) (nI o) (nI c) (nI d0) (nI r00) (nI rn) kc ks (d + 1)) := by
      intro w0 w1 w2 w3 o0 o1 o2 o3 cu rm be bo de dn st la an f0 f1 f2 f3 f4 f5 ph xs xp xq xg xv xf xl xc xh xw xz h
      rw [nI_1]
      exact ih (j + 1) _ _ _ _ _ _ _ _ _ _ _ _ _ _ _ _ _ _ _ _ _ _ _ _ _ _ _ _ _ _ _ _ _ _ _ (by omega) h
    have hq : ∃ q, 1 ≤ q ∧ q ≤ 3 ∧ 1 + (((((nI b >>> ((3 : Int32) &&& 31)) + (nI a >>> ((5 : Int32) &&& 31))) + nI k) + nI j) - ((((nI b >>> ((3 : Int32) &&& 31)) + (nI a >>> ((5 : Int32) &&& 31))) + nI k) + nI j) / 3 * 3) = nI q := by
      have s3 : nI b >>> ((3 : Int32) &&& 31) = nI (b / 2 ^ 3) := pk_shrN hbb _ 3 (by decide)
      have s5 : nI a >>> ((5 : Int32) &&& 31) = nI (a / 2 ^ 5) := pk_shrN ha _ 5 (by decide)
      have r3 : nI (b / 2 ^ 3 + a / 2 ^ 5 + k + j) - nI (b / 2 ^ 3 + a / 2 ^ 5 + k + j) / 3 * 3 = nI ((b / 2 ^ 3 + a / 2 ^ 5 + k + j) % 3) := pk_rem (d := 3) (by omega) (by decide) (by decide)
      refine ⟨1 + (b / 2 ^ 3 + a / 2 ^ 5 + k + j) % 3, by omega, by omega, ?_⟩
      rw [s3, s5, nI_add, nI_add, nI_add, r3]
      exact nI_add 1 _
    have call : ∀ kd rr, (∃ n, n ≤ 9 ∧ kd = nI n) → (∃ r, r < nr ∧ rr = nI r) → wL_law_465 post L xs0 J98 (wL_law_197 post L xs0 J98 (nI nc) (nI nr) (nI k) (nI a) (nI b) (nI o) (nI c) (nI d0) (nI r00) (nI rn) kc ks (d + 1)) (nI nc) (nI nr) w0 w1 w2 w3 o0 o1 o2 o3 cu rm be bo de dn st (nI ck) (nI k) (nI a) (nI b) (nI o) (nI c) (nI d0) (nI r00) (nI rn) (nI j) rr (ph c) (xq c) kd kc ks (nI nc) (nI nr) (nI nl) (nI nt) (nI ck) (nI bg) ph xs xp xq xg xv xf xl xc xh xw xz :=
      fun kd rr h1 h2 => lw_call H HI kp hF hJ hc h1 (Or.inl h2) rfl rfl hq
    have rr0 : ∃ r, r < nr ∧ nI ((r00 + j * d0) % nr) = nI r := ⟨_, lr, rfl⟩
    have l391 : ∀ f : Int32, wL_law_391 post L xs0 J98 (wL_law_197 post L xs0 J98 (nI nc) (nI nr) (nI k) (nI a) (nI b) (nI o) (nI c) (nI d0) (nI r00) (nI rn) kc ks (d + 1)) (nI nc) (nI nr) w0 w1 w2 w3 o0 o1 o2 o3 cu rm be bo de dn st (nI ck) (nI k) (nI a) (nI b) (nI o) (nI c) (nI d0) (nI r00) (nI rn) (nI j) (nI ((r00 + j * d0) % nr)) (ph c) (xq c) f kc ks (nI nc) (nI nr) (nI nl) (nI nt) (nI ck) (nI bg) ph xs xp xq xg xv xf xl xc xh xw xz := by
      intro f
      unfold wL_law_391
      exact br_c (fun _ => ⟨nr + 1, lw_wl H hc call nr 0 _ (by omega) lr⟩) (fun _ => ⟨nr + 1, lw_wl H hc call nr 0 _ (by omega) lr⟩)
    refine br_c (fun _ => br_c (fun _ => call _ _ ⟨0, by decide, rfl⟩ rr0) (fun _ => br_c (fun _ => br_c (fun _ => call _ _ ⟨9, by decide, rfl⟩ rr0) (fun _ => br_c (fun _ => call _ _ ⟨6, by decide, rfl⟩ rr0) (fun _ => br_c (fun _ => ?_) (fun _ => br_c (fun _ => ?_) (fun _ => br_c (fun _ => l391 1) (fun _ => l391 0)))))) (fun _ => call _ _ ⟨5, by decide, rfl⟩ rr0))) (fun ge => br_c (fun _ => br_c (fun _ => ?_) (fun _ => ⟨by decide, ?_⟩)) (fun lt => ?_))
    · exact px_look4 H hc lr (br_c (fun _ => call _ _ ⟨1, by decide, rfl⟩ rr0) (fun _ => call _ _ ⟨2, by decide, rfl⟩ rr0))
    · exact lw_call H HI kp hF hJ hc ⟨4, by decide, rfl⟩ (Or.inr rfl) rfl rfl hq
    · exact call _ _ ⟨1, by decide, rfl⟩ rr0
    · have s1 : nI b >>> ((1 : Int32) &&& 31) = nI (b / 2 ^ 1) := pk_shrN hbb _ 1 (by decide)
      have r3 : nI (b / 2 ^ 1) - nI (b / 2 ^ 1) / 3 * 3 = nI (b / 2 ^ 1 % 3) := pk_rem (d := 3) (by omega) (by decide) (by decide)
      rw [s1, r3]
      exact call _ _ ⟨2 + b / 2 ^ 1 % 3, by omega, nI_add 2 _⟩ rr0
    · have g1 : 10 ≤ o := by
        by_cases y : o < 10
        · exact absurd (nI_lt (b := 10) y (by decide)) ge
        · omega
      have g2 : o < 14 := by
        by_cases y : o < 14
        · exact y
        · exact absurd (nI_le (a := 14) (by omega) (by omega)) lt
      exact call _ _ ⟨o - 4, by omega, pk_sub (b := 4) (by omega)⟩ rr0
/-! the outer loop -/
theorem lw_cell {p : Int32 → Prop} {k : Nat} (hk : k < 2 ^ 31) (hL : L ≤ 260) (h : ∀ v, p v) : wpL_cell p L xs0 () (nI k) := by
  unfold wpL_cell
  refine br_c (fun _ => h _) (fun z => ⟨vp_in_nI ?_ (by omega), h _⟩)
  by_cases y : k < L
  · exact y
  · exact absurd (nI_le (by omega) hk) z
theorem lw_kl (hL : L ≤ 260) (hnc : 2 ≤ nc) (hnc3 : nc ≤ 3) (hn1 : 2 ≤ nr) (hn : nr ≤ 4) : ∀ (d k : Nat) (w0 w1 w2 w3 o0 o1 o2 o3 cu rm be bo de dn st : Int64) (la f0 f1 f2 f3 f4 f5 : Int32) (ph xs xp xq xg xv xf xl xc xh xw xz : Nat → Int32), L ≤ k + 2 * d → k ≤ 600 → lw_Jv nc nr w0 w1 w2 w3 o0 o1 o2 o3 cu rm be bo de dn st la f0 f1 f2 f3 f4 f5 ph xs xp xq xg xv xf xl xc xh xw xz → wL_law_98 (fun r => r = 1) L xs0 (nI nc) (nI nr) kc ks (d + 1) w0 w1 w2 w3 o0 o1 o2 o3 cu rm be bo de dn st la (nI k) f0 f1 f2 f3 f4 f5 ph xs xp xq xg xv xf xl xc xh xw xz := by
  intro d
  induction d with
  | zero =>
    intro k w0 w1 w2 w3 o0 o1 o2 o3 cu rm be bo de dn st la f0 f1 f2 f3 f4 f5 ph xs xp xq xg xv xf xl xc xh xw xz hk hk6 h
    exact br_t (nI_le (by omega) (by omega)) rfl
  | succ d ih =>
    intro k w0 w1 w2 w3 o0 o1 o2 o3 cu rm be bo de dn st la f0 f1 f2 f3 f4 f5 ph xs xp xq xg xv xf xl xc xh xw xz hk hk6 h
    by_cases l : L ≤ k
    · exact br_t (nI_le l (by omega)) rfl
    · have hJ98 : ∀ (w0 w1 w2 w3 o0 o1 o2 o3 cu rm be bo de dn st : Int64) (la f0 f1 f2 f3 f4 f5 : Int32) (ph xs xp xq xg xv xf xl xc xh xw xz : Nat → Int32), lw_Jv nc nr w0 w1 w2 w3 o0 o1 o2 o3 cu rm be bo de dn st la f0 f1 f2 f3 f4 f5 ph xs xp xq xg xv xf xl xc xh xw xz → wL_law_98 (fun r => r = 1) L xs0 (nI nc) (nI nr) kc ks (d + 1) w0 w1 w2 w3 o0 o1 o2 o3 cu rm be bo de dn st la (nI k + 2) f0 f1 f2 f3 f4 f5 ph xs xp xq xg xv xf xl xc xh xw xz := by
        intro w0 w1 w2 w3 o0 o1 o2 o3 cu rm be bo de dn st la f0 f1 f2 f3 f4 f5 ph xs xp xq xg xv xf xl xc xh xw xz h
        rw [lw_c2]
        exact ih (k + 2) _ _ _ _ _ _ _ _ _ _ _ _ _ _ _ _ _ _ _ _ _ _ _ _ _ _ _ _ _ _ _ _ _ _ (by omega) (by omega) h
      rw [wL_law_98]
      refine br_f (nI_ge (by omega) (by omega)) (lw_cell (by omega) hL (fun va => ?_))
      rw [pk_and va 31 (by decide)]
      have la' : va.toBitVec.toNat % 2 ^ 31 < 2 ^ 31 := Nat.mod_lt _ (by decide)
      generalize va.toBitVec.toNat % 2 ^ 31 = a at la' ⊢
      refine nm_e ?_
      rw [nI_1]
      refine lw_cell (by omega) hL (fun vb => ?_)
      rw [pk_and vb 31 (by decide)]
      have lb' : vb.toBitVec.toNat % 2 ^ 31 < 2 ^ 31 := Nat.mod_lt _ (by decide)
      generalize vb.toBitVec.toNat % 2 ^ 31 = b at lb' ⊢
      have e16 : nI a - nI a / 16 * 16 = nI (a % 16) := pk_rem (d := 16) la' (by decide) (by decide)
      have s1 : nI b >>> ((1 : Int32) &&& 31) = nI (b / 2 ^ 1) := pk_shrN lb' _ 1 (by decide)
      have s2 : nI b >>> ((2 : Int32) &&& 31) = nI (b / 2 ^ 2) := pk_shrN lb' _ 2 (by decide)
      have s4 : nI a >>> ((4 : Int32) &&& 31) = nI (a / 2 ^ 4) := pk_shrN la' _ 4 (by decide)
      have e2 : nI (b / 2 ^ 1) - nI (b / 2 ^ 1) / 2 * 2 = nI (b / 2 ^ 1 % 2) := pk_rem (d := 2) (by omega) (by decide) (by decide)
      refine nm_e ?_
      rw [e16, pk_rem lb' (by omega) (by omega), s1, e2, s2, s4, nI_add, pk_rem (by omega) (by omega) (by omega)]
      refine ⟨by decide, nm_e ⟨nI_ne0 (by omega) (by omega), nm_e ⟨by decide, nm_e ⟨nI_ne0 (by omega) (by omega), nm_e ?_⟩⟩⟩⟩
      have hc : b % nc < nc := Nat.mod_lt _ (by omega)
      have hr : (b / 2 ^ 2 + a / 2 ^ 4) % nr < nr := Nat.mod_lt _ (by omega)
      have ho : a % 16 ≤ 15 := by omega
      have go : ∀ rn, rn ≤ 7 → ∃ fu, wL_law_197 (fun r => r = 1) L xs0 (wL_law_98 (fun r => r = 1) L xs0 (nI nc) (nI nr) kc ks (d + 1)) (nI nc) (nI nr) (nI k) (nI a) (nI b) (nI (a % 16)) (nI (b % nc)) (nI (b / 2 ^ 1 % 2)) (nI ((b / 2 ^ 2 + a / 2 ^ 4) % nr)) (nI rn) kc ks fu w0 w1 w2 w3 o0 o1 o2 o3 cu rm be bo de dn st la 0 0 f0 f1 f2 f3 f4 f5 ph xs xp xq xg xv xf xl xc xh xw xz := by
        intro rn hrn
        have kk0 := lw_jl (post := fun r => r = 1) (L := L) (xs0 := xs0) (kc := kc) (ks := ks) hc (by omega) hn1 hn la' lb' (k := k) (by omega) (d0 := b / 2 ^ 1 % 2) (by omega) hr hrn ho hJ98 rn 0 w0 w1 w2 w3 o0 o1 o2 o3 cu rm be bo de dn st la 0 f0 f1 f2 f3 f4 f5 ph xs xp xq xg xv xf xl xc xh xw xz (by omega) h
        rw [nI_0] at kk0
        exact ⟨rn + 1, kk0⟩
      refine br_c (fun _ => br_c (fun _ => go 1 (by decide)) (fun _ => go 2 (by decide))) (fun z => ?_)
      have l7 : a % 16 < 7 := by
        by_cases y : a % 16 < 7
        · exact y
        · exact absurd (nI_le (a := 7) (by omega) (by omega)) z
      exact nm_r (nI_1 (a % 16)) (go (a % 16 + 1) (by omega))
/-! the start, and the whole -/
theorem lw_i_start (hnc3 : nc ≤ 3) (hn : nr ≤ 4) : lw_I nc nr 16 0 0 (fun _ => 0) (fun _ => 0) (fun _ => 0) (fun _ => 0) (fun _ => 0) (fun _ => 0) 0 0 0 0 0 0 0 0 0 0 0 0 := by
  have gz : ∀ i, i < 64 → pb_g 0 i = false := fun i hi => pb_zero.mp rfl i hi
  have wz : ∀ r, lw_W 0 0 0 0 r = 0 := by
    intro r
    unfold lw_W
    split
    · rfl
    · split
      · rfl
      · split <;> rfl
  refine ⟨hnc3, hn, rfl, ?_, ?_, ?_, ?_, ?_, ?_, ?_⟩
  · intro s hs
    rw [gz s hs]
    exact ⟨fun y => absurd y (by decide), fun ⟨t, lt, _⟩ => by omega⟩
  · exact ⟨fun t lt => by omega, fun s _ hs => gz s hs⟩
  · intro c t _ h
    have h' : 0 = t + 1 := h
    omega
  · exact ⟨fun r t _ lt => by omega, fun r s _ _ _ => by rw [wz]; exact pb_fz⟩
  · refine ⟨fun t lt => by omega, fun p _ _ h => ?_⟩
    unfold lw_O at h
    rw [wz] at h
    exact absurd pb_fz h
  · intro r _
    exact ⟨by rw [pb_fz]; exact Nat.le_refl 0, fun t lt => by omega⟩
  · intro t lt
    omega
theorem i_vc (xs : Nat → Int32) (L : Nat) (hL : L ≤ 260) : wpL_law (fun r => r = 1) L xs := by
  unfold wpL_law
  refine lw_cell (k := 0) (by decide) hL (fun va => ?_)
  rw [pk_and va 31 (by decide)]
  have la' : va.toBitVec.toNat % 2 ^ 31 < 2 ^ 31 := Nat.mod_lt _ (by decide)
  generalize va.toBitVec.toNat % 2 ^ 31 = h at la' ⊢
  have s1 : nI h >>> ((1 : Int32) &&& 31) = nI (h / 2 ^ 1) := pk_shrN la' _ 1 (by decide)
  have s2 : nI h >>> ((2 : Int32) &&& 31) = nI (h / 2 ^ 2) := pk_shrN la' _ 2 (by decide)
  have e2 : 2 + (nI h - nI h / 2 * 2) = nI (2 + h % 2) := by
    have e : nI h - nI h / 2 * 2 = nI (h % 2) := pk_rem (d := 2) la' (by decide) (by decide)
    rw [e]
    exact nI_add 2 _
  have e3 : 2 + (nI (h / 2 ^ 1) - nI (h / 2 ^ 1) / 3 * 3) = nI (2 + h / 2 ^ 1 % 3) := by
    have e : nI (h / 2 ^ 1) - nI (h / 2 ^ 1) / 3 * 3 = nI (h / 2 ^ 1 % 3) := pk_rem (d := 3) (by omega) (by decide) (by decide)
    rw [e]
    exact nI_add 2 _
  have e4 : 1 + (nI (h / 2 ^ 2) - nI (h / 2 ^ 2) / 3 * 3) = nI (1 + h / 2 ^ 2 % 3) := by
    have e : nI (h / 2 ^ 2) - nI (h / 2 ^ 2) / 3 * 3 = nI (h / 2 ^ 2 % 3) := pk_rem (d := 3) (by omega) (by decide) (by decide)
    rw [e]
    exact nI_add 1 _
  refine nm_e ⟨by decide, nm_r e2 ⟨by decide, ?_⟩⟩
  rw [s1, s2]
  refine nm_r e3 ⟨by decide, nm_r e4 ⟨12, 1403, by decide, by decide, ?_⟩⟩
  unfold wpX_init
  refine ⟨by decide, by decide, by decide, by decide, by decide, by decide, by decide, by decide, by decide, by decide, by decide, by decide, by decide, by decide, by decide, by decide, by decide, by decide, by decide, by decide, by decide, by decide, by decide, by decide, ?_⟩
  refine pl_clamp (a := 1) (b := 8) rfl (by omega) (by omega) (by decide) (pl_clamp (a := 2) (b := 8) rfl (by omega) (by omega) (by decide) (pl_clamp (a := 1) (b := 100) rfl (by omega) (by omega) (by decide) (pl_clamp (a := 8) (b := 32) (n := 16) rfl (by omega) (by omega) (by decide) ⟨9, ?_⟩)))
  refine px_in1 (f0 := nI (2 + h % 2)) (f1 := nI (2 + h / 2 ^ 1 % 3)) (f2 := nI (1 + h / 2 ^ 2 % 3)) (f3 := nI 16) (f4 := 0) (f5 := 0) (xh := fun _ => 0) ?_ 8 0 (fun _ => 0) (fun _ => 0) (fun _ => 0) rfl lt_0
  intro xs' xp xq xh h1 h2
  refine ⟨L + 1, ?_⟩
  refine lw_kl (nc := 2 + h % 2) (nr := 2 + h / 2 ^ 1 % 3) hL (by omega) (by omega) (by omega) (by omega) L 1 _ _ _ _ _ _ _ _ _ _ _ _ _ _ _ _ _ _ _ _ _ _ _ _ _ _ _ _ _ _ _ _ _ _ (by omega) (by decide) ?_
  exact lw_jm (nl := 1 + h / 2 ^ 2 % 3) (nt := 16) (ck := 0) (bg := 0) (pl_start (by omega) (by omega) (by omega) (by omega) (fun _ _ => rfl) (fun c h => (h1 c h).1) (fun c h => (h1 c h).2.1) (fun c h => (h1 c h).2.2) (fun _ _ => rfl) h2 _ _ _ _ (fun _ => 0) (fun _ => 0) (fun _ => 0) (fun _ => 0) (fun _ => 0)) (lw_i_start (by omega) (by omega)) (fun t lt => by omega) (fun s _ hs => ⟨pb_zero.mp rfl s hs, pb_zero.mp rfl s hs, pb_zero.mp rfl s hs⟩)
end LWI
end
