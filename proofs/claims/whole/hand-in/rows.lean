section
section PLA
/-! numbers and stores -/
theorem pl_us {f : Nat → Int32} {k : Nat} {x : Int32} : upd f k x k = x := if_pos rfl
theorem pl_un {f : Nat → Int32} {k j : Nat} {x : Int32} (h : j ≠ k) : upd f k x j = f j := if_neg h
def pl_nu (f : Nat → Nat) (k x : Nat) : Nat → Nat := fun j => if j = k then x else f j
theorem pl_ns {f : Nat → Nat} {k x : Nat} : pl_nu f k x k = x := if_pos rfl
theorem pl_nn {f : Nat → Nat} {k j x : Nat} (h : j ≠ k) : pl_nu f k x j = f j := if_neg h
theorem pl_ne1 {a : Nat} (h : a < 2 ^ 31) : ¬ nI a = -1 := by
  intro e
  have := nI_pos (n := a) h
  rw [e] at this
  exact this (by decide)
theorem pl_im {a b : Nat} (h : nI a = nI b) (ha : a < 2 ^ 31) (hb : b < 2 ^ 31) : a = b := (nI_eq ha hb).mp h
theorem pl_21 : ¬ (2 : Int32) = 1 := by decide
theorem pl_12 : ¬ (1 : Int32) = 2 := by decide
theorem pl_13 : ¬ (1 : Int32) = 3 := by decide
theorem pl_23 : ¬ (2 : Int32) = 3 := by decide
theorem pl_32 : ¬ (3 : Int32) = 2 := by decide
theorem pl_42 : ¬ (4 : Int32) = 2 := by decide
theorem pl_43 : ¬ (4 : Int32) = 3 := by decide
theorem pl_02 : ¬ (0 : Int32) = 2 := by decide
/-! how many of the first n have no stamp -/
def pl_zc (P : Nat → Nat) : Nat → Nat
  | 0 => 0
  | n + 1 => pl_zc P n + (if P n = 0 then 1 else 0)
theorem pl_zc_s {P : Nat → Nat} {n : Nat} : pl_zc P (n + 1) = pl_zc P n + (if P n = 0 then 1 else 0) := rfl
theorem pl_zc_hi {P : Nat → Nat} {k x : Nat} : ∀ n, n ≤ k → pl_zc (pl_nu P k x) n = pl_zc P n := by
  intro n
  induction n with
  | zero => intro _; rfl
  | succ n ih =>
    intro h
    rw [pl_zc_s, pl_zc_s, ih (by omega), pl_nn (by omega)]
theorem pl_zc_lo {P : Nat → Nat} {k x : Nat} (hk : P k = 0) (hx : x ≠ 0) : ∀ n, k < n → pl_zc (pl_nu P k x) n + 1 = pl_zc P n := by
  intro n
  induction n with
  | zero => intro h; omega
  | succ n ih =>
    intro h
    rw [pl_zc_s, pl_zc_s]
    by_cases e : n = k
    · subst e
      rw [pl_zc_hi n (Nat.le_refl n), pl_ns, if_neg hx, if_pos hk]
    · have := ih (by omega)
      rw [pl_nn e]
      omega
/-- the greatest of 1 .. n with Pr, or none -/
theorem pl_great (Pr : Nat → Prop) : ∀ n, (∃ p, 1 ≤ p ∧ p ≤ n ∧ Pr p ∧ ∀ q, p < q → q ≤ n → ¬ Pr q) ∨ (∀ q, 1 ≤ q → q ≤ n → ¬ Pr q) := by
  intro n
  induction n with
  | zero => exact Or.inr fun q h1 h2 => by omega
  | succ n ih =>
    by_cases h : Pr (n + 1)
    · exact Or.inl ⟨n + 1, by omega, Nat.le_refl _, h, fun q h1 h2 => by omega⟩
    · rcases ih with ⟨p, h1, h2, h3, h4⟩ | h0
      · refine Or.inl ⟨p, h1, by omega, h3, fun q hq hn => ?_⟩
        by_cases e : q = n + 1
        · rw [e]; exact h
        · exact h4 q hq (by omega)
      · refine Or.inr fun q hq hn => ?_
        by_cases e : q = n + 1
        · rw [e]; exact h
        · exact h0 q hq (by omega)
/-! what the two sides keep: X's arrays xs xp xq xg xv xf xl xc xh xw xz, Y's ym yf ys yp yq yl yg yv, the phases ph alike; S P: start and stamp of a transaction by its number; M: a client's transaction and one, or 0 -/
def pl_SZ (nc nr nl nt ck bg : Nat) (P : Nat → Nat) : Prop :=
  1 ≤ nc ∧ nc ≤ 8 ∧ 2 ≤ nr ∧ nr ≤ 8 ∧ 1 ≤ nl ∧ nl ≤ 100 ∧ 8 ≤ nt ∧ nt ≤ 32 ∧ bg ≤ nt ∧ ck + pl_zc P bg ≤ 2 * bg
def pl_TS (ck bg : Nat) (S : Nat → Nat) (ys : Nat → Int32) : Prop := ∀ t, t < bg → ys t = nI (S t) ∧ 1 ≤ S t ∧ S t ≤ ck
def pl_TI (bg : Nat) (S : Nat → Nat) : Prop := ∀ t t', t < t' → t' < bg → S t < S t'
def pl_TP (ck : Nat) (P : Nat → Nat) (yp : Nat → Int32) : Prop := ∀ t, t < 32 → yp t = nI (P t) ∧ P t ≤ ck
def pl_TJ (P : Nat → Nat) : Prop := ∀ t t', t < 32 → t' < 32 → P t = P t' → P t = 0 ∨ t = t'
def pl_TN (bg : Nat) (P : Nat → Nat) (yf yg : Nat → Int32) : Prop := ∀ t, bg ≤ t → t < 32 → yf t = 0 ∧ P t = 0 ∧ ∀ r, r < 8 → yg (t * 8 + r) = 0
def pl_TR (nr : Nat) (yg : Nat → Int32) : Prop := ∀ t r, t < 32 → nr ≤ r → r < 8 → yg (t * 8 + r) = 0
def pl_T3 (P : Nat → Nat) (yf : Nat → Int32) : Prop := ∀ t, t < 32 → yf t = 3 → P t ≠ 0
def pl_CI (M : Nat → Nat) (xs xp xq xg : Nat → Int32) : Prop := ∀ c, c < 8 → M c = 0 → xs c = -1 ∧ xp c = -1 ∧ xq c = -1 ∧ ∀ r, r < 8 → xg (c * 8 + r) = 0
def pl_CA (bg : Nat) (S P M : Nat → Nat) (xs xp xq ym yq : Nat → Int32) : Prop :=
  ∀ c t, c < 8 → M c = t + 1 → t < bg ∧ ym c = nI t ∧ xs c = nI (S t) ∧ xp c = (if P t = 0 then -1 else nI (P t)) ∧ xq c = yq t ∧ (yq t = -1 ∨ ¬ yq t < 0)
def pl_CJ (M : Nat → Nat) : Prop := ∀ c c' t, c < 8 → c' < 8 → M c = t + 1 → M c' = t + 1 → c = c'
def pl_CG (M : Nat → Nat) (xg xv yg yv : Nat → Int32) : Prop :=
  ∀ c t r, c < 8 → M c = t + 1 → r < 8 → xg (c * 8 + r) = yg (t * 8 + r) ∧ (yg (t * 8 + r) ≠ 0 → xv (c * 8 + r) = yv (t * 8 + r))
def pl_ok (ph yf yg : Nat → Int32) (P : Nat → Nat) (c t : Nat) : Prop :=
  (ph c = 1 ∧ yf t = 1 ∧ P t = 0 ∧ ∀ r, r < 8 → yg (t * 8 + r) ≠ 2) ∨ (ph c = 2 ∧ (yf t = 2 ∨ yf t = 4) ∧ P t = 0) ∨ (ph c = 3 ∧ (yf t = 2 ∨ yf t = 4) ∧ P t ≠ 0) ∨ (ph c = 4 ∧ yf t = 3)
def pl_CF (P M : Nat → Nat) (ph yf yg : Nat → Int32) : Prop := ∀ c, c < 8 → (M c = 0 ∧ ph c = 0) ∨ ∃ t, M c = t + 1 ∧ pl_ok ph yf yg P c t
def pl_DF (bg : Nat) (S : Nat → Nat) (xf yf : Nat → Int32) : Prop := ∀ t, t < bg → xf (S t) = yf t
def pl_DL (bg : Nat) (S : Nat → Nat) (xl yf yl : Nat → Int32) : Prop := ∀ t, t < bg → yf t = 2 → xl (S t) = yl t
def pl_DC (bg : Nat) (S P : Nat → Nat) (xc yf : Nat → Int32) : Prop := ∀ t, t < bg → yf t = 3 → xc (S t) = nI (P t)
def pl_DN (bg : Nat) (S : Nat → Nat) (xf : Nat → Int32) : Prop := ∀ s, 1 ≤ s → s ≤ 64 → (∀ t, t < bg → S t ≠ s) → xf s = 0
def pl_HE (nr bg : Nat) (S : Nat → Nat) (xh yf yg : Nat → Int32) : Prop := ∀ r t, r < nr → t < bg → yf t = 2 → yg (t * 8 + r) = 2 → xh r = nI (S t)
def pl_HX (nr bg : Nat) (S : Nat → Nat) (xh yf yg : Nat → Int32) : Prop := ∀ r, r < nr → xh r = -1 ∨ ∃ t, t < bg ∧ yf t = 2 ∧ yg (t * 8 + r) = 2 ∧ xh r = nI (S t)
def pl_VE (bg : Nat) (P : Nat → Nat) (xw xz yf yg yv : Nat → Int32) : Prop :=
  ∀ r t, r < 8 → t < bg → yf t = 3 → yg (t * 8 + r) ≠ 0 → xw (r * 65 + P t) = 1 ∧ xz (r * 65 + P t) = yv (t * 8 + r)
def pl_VX (bg : Nat) (P : Nat → Nat) (xw yf yg : Nat → Int32) : Prop :=
  ∀ r p, r < 8 → 1 ≤ p → p ≤ 64 → xw (r * 65 + p) ≠ 0 → ∃ t, t < bg ∧ yf t = 3 ∧ yg (t * 8 + r) ≠ 0 ∧ P t = p
def pl_R (nc nr nl nt ck bg : Nat) (S P M : Nat → Nat) (ph xs xp xq xg xv xf xl xc xh xw xz ym yf ys yp yq yl yg yv : Nat → Int32) : Prop :=
  pl_SZ nc nr nl nt ck bg P ∧ pl_TS ck bg S ys ∧ pl_TI bg S ∧ pl_TP ck P yp ∧ pl_TJ P ∧ pl_TN bg P yf yg ∧ pl_TR nr yg ∧ pl_T3 P yf ∧
  pl_CI M xs xp xq xg ∧ pl_CA bg S P M xs xp xq ym yq ∧ pl_CJ M ∧ pl_CG M xg xv yg yv ∧ pl_CF P M ph yf yg ∧
  pl_DF bg S xf yf ∧ pl_DL bg S xl yf yl ∧ pl_DC bg S P xc yf ∧ pl_DN bg S xf ∧ pl_HE nr bg S xh yf yg ∧ pl_HX nr bg S xh yf yg ∧
  pl_VE bg P xw xz yf yg yv ∧ pl_VX bg P xw yf yg
theorem pl_Sj {bg : Nat} {S : Nat → Nat} (h : pl_TI bg S) {t t' : Nat} (ht : t < bg) (ht' : t' < bg) (e : t ≠ t') : S t ≠ S t' := by
  intro E
  rcases Nat.lt_trichotomy t t' with l | l | l
  · have := h t t' l ht'; omega
  · exact e l
  · have := h t' t l ht; omega
/-- a client's cells cleared; a start's holds ended -/
def pl_zr (c : Nat) (f : Nat → Int32) : Nat → Int32 := fun j => if c * 8 ≤ j ∧ j < c * 8 + 8 then 0 else f j
theorem pl_zr_i {c r : Nat} {f : Nat → Int32} (h : r < 8) : pl_zr c f (c * 8 + r) = 0 := if_pos (by omega)
theorem pl_zr_o {c c' r : Nat} {f : Nat → Int32} (h : r < 8) (e : c' ≠ c) : pl_zr c f (c' * 8 + r) = f (c' * 8 + r) := if_neg (by omega)
def pl_eh (nr : Nat) (x : Int32) (f : Nat → Int32) : Nat → Int32 := fun r => if r < nr ∧ f r = x then -1 else f r
theorem pl_eh_i {nr r : Nat} {x : Int32} {f : Nat → Int32} (h : r < nr) (e : f r = x) : pl_eh nr x f r = -1 := if_pos ⟨h, e⟩
theorem pl_eh_o {nr r : Nat} {x : Int32} {f : Nat → Int32} (e : f r ≠ x) : pl_eh nr x f r = f r := if_neg fun z => e z.2
theorem pl_c2 {f : Nat → Int32} {a b a' b' : Nat} {x : Int32} (hb : b < 8) (hb' : b' < 8) (e : a' ≠ a) : upd f (a * 8 + b) x (a' * 8 + b') = f (a' * 8 + b') := pl_un (by omega)
theorem pl_c3 {f : Nat → Int32} {a b b' : Nat} {x : Int32} (e : b' ≠ b) : upd f (a * 8 + b) x (a * 8 + b') = f (a * 8 + b') := pl_un (by omega)
end PLA
end
section
section PLB
variable {nc nr nl nt ck bg : Nat} {S P M : Nat → Nat} {ph xs xp xq xg xv xf xl xc xh xw xz ym yf ys yp yq yl yg yv : Nat → Int32}
/-! a client becomes idle -/
theorem pl_idle (H : pl_R nc nr nl nt ck bg S P M ph xs xp xq xg xv xf xl xc xh xw xz ym yf ys yp yq yl yg yv) {c : Nat} (hc : c < 8) :
    pl_R nc nr nl nt ck bg S P (pl_nu M c 0) (upd ph c 0) (upd xs c (-1)) (upd xp c (-1)) (upd xq c (-1)) (pl_zr c xg) xv xf xl xc xh xw xz ym yf ys yp yq yl yg yv := by
  obtain ⟨hSZ, hTS, hTI, hTP, hTJ, hTN, hTR, hT3, hCI, hCA, hCJ, hCG, hCF, hDF, hDL, hDC, hDN, hHE, hHX, hVE, hVX⟩ := H
  have hM : ∀ c' t, pl_nu M c 0 c' = t + 1 → c' ≠ c ∧ M c' = t + 1 := by
    intro c' t h
    by_cases e : c' = c
    · rw [e, pl_ns] at h; omega
    · rw [pl_nn e] at h; exact ⟨e, h⟩
  refine ⟨hSZ, hTS, hTI, hTP, hTJ, hTN, hTR, hT3, ?_, ?_, ?_, ?_, ?_, hDF, hDL, hDC, hDN, hHE, hHX, hVE, hVX⟩
  · intro c' hc' h
    by_cases e : c' = c
    · rw [e]
      exact ⟨pl_us, pl_us, pl_us, fun r hr => pl_zr_i hr⟩
    · rw [pl_nn e] at h
      obtain ⟨h1, h2, h3, h4⟩ := hCI c' hc' h
      rw [pl_un e, pl_un e, pl_un e]
      exact ⟨h1, h2, h3, fun r hr => by rw [pl_zr_o hr e]; exact h4 r hr⟩
  · intro c' t hc' h
    obtain ⟨e, h⟩ := hM c' t h
    rw [pl_un e, pl_un e, pl_un e]
    exact hCA c' t hc' h
  · intro c1 c2 t h1 h2 e1 e2
    exact hCJ c1 c2 t h1 h2 (hM c1 t e1).2 (hM c2 t e2).2
  · intro c' t r hc' h hr
    obtain ⟨e, h⟩ := hM c' t h
    rw [pl_zr_o hr e]
    exact hCG c' t r hc' h hr
  · intro c' hc'
    by_cases e : c' = c
    · rw [e]
      exact Or.inl ⟨pl_ns, pl_us⟩
    · unfold pl_ok
      rw [pl_nn e, pl_un e]
      exact hCF c' hc'
/-! a pending transaction is rolled back -/
theorem pl_roll (H : pl_R nc nr nl nt ck bg S P M ph xs xp xq xg xv xf xl xc xh xw xz ym yf ys yp yq yl yg yv) {t : Nat} (ht : t < bg) (hf : yf t = 2) :
    pl_R nc nr nl nt ck bg S P M ph xs xp xq xg xv (upd xf (S t) 4) xl xc (pl_eh nr (nI (S t)) xh) xw xz ym (upd yf t 4) ys yp yq yl yg yv := by
  obtain ⟨hSZ, hTS, hTI, hTP, hTJ, hTN, hTR, hT3, hCI, hCA, hCJ, hCG, hCF, hDF, hDL, hDC, hDN, hHE, hHX, hVE, hVX⟩ := H
  have hb : bg ≤ 32 ∧ ck ≤ 64 := by unfold pl_SZ at hSZ; omega
  have hS : ∀ q, q < bg → S q < 2 ^ 31 := fun q hq => by have := (hTS q hq).2.2; omega
  have hn : ∀ q, q < bg → q ≠ t → nI (S q) ≠ nI (S t) := fun q hq e z => pl_Sj hTI hq ht e (pl_im z (hS q hq) (hS t ht))
  have h2 : ∀ q, upd yf t 4 q = 2 → q ≠ t ∧ yf q = 2 := by
    intro q h
    by_cases e : q = t
    · rw [e, pl_us] at h; exact absurd h pl_42
    · rw [pl_un e] at h; exact ⟨e, h⟩
  have h3 : ∀ q, upd yf t 4 q = 3 → q ≠ t ∧ yf q = 3 := by
    intro q h
    by_cases e : q = t
    · rw [e, pl_us] at h; exact absurd h pl_43
    · rw [pl_un e] at h; exact ⟨e, h⟩
  refine ⟨hSZ, hTS, hTI, hTP, hTJ, ?_, hTR, ?_, hCI, hCA, hCJ, hCG, ?_, ?_, ?_, ?_, ?_, ?_, ?_, ?_, ?_⟩
  · intro q h1 h2
    rw [pl_un (by omega)]
    exact hTN q h1 h2
  · intro q hq h
    exact hT3 q hq (h3 q h).2
  · intro c hc
    rcases hCF c hc with h | ⟨q, hm, h⟩
    · exact Or.inl h
    · refine Or.inr ⟨q, hm, ?_⟩
      unfold pl_ok at h ⊢
      by_cases e : q = t
      · subst e
        rw [pl_us]
        rcases h with h | h | h | h
        · rw [hf] at h; exact absurd h.2.1 pl_21
        · exact Or.inr (Or.inl ⟨h.1, Or.inr rfl, h.2.2⟩)
        · exact Or.inr (Or.inr (Or.inl ⟨h.1, Or.inr rfl, h.2.2⟩))
        · rw [hf] at h; exact absurd h.2 pl_23
      · rw [pl_un e]; exact h
  · intro q hq
    by_cases e : q = t
    · rw [e, pl_us, pl_us]
    · rw [pl_un e, pl_un (pl_Sj hTI hq ht e)]; exact hDF q hq
  · intro q hq h
    exact hDL q hq (h2 q h).2
  · intro q hq h
    exact hDC q hq (h3 q h).2
  · intro s h1 h2 h
    rw [pl_un (fun e => h t ht e.symm)]
    exact hDN s h1 h2 h
  · intro r q hr hq h hg
    obtain ⟨e, h⟩ := h2 q h
    have z := hHE r q hr hq h hg
    rw [pl_eh_o (by rw [z]; exact hn q hq e)]
    exact z
  · intro r hr
    by_cases z : xh r = nI (S t)
    · exact Or.inl (pl_eh_i hr z)
    · rw [pl_eh_o z]
      rcases hHX r hr with h | ⟨q, hq, h1, h2, h3⟩
      · exact Or.inl h
      · have e : q ≠ t := fun e => z (by rw [h3, e])
        exact Or.inr ⟨q, hq, by rw [pl_un e]; exact h1, h2, h3⟩
  · intro r q hr hq h hg
    exact hVE r q hr hq (h3 q h).2 hg
  · intro r p hr h1 h2 h
    obtain ⟨q, hq, hq3, hg, hp⟩ := hVX r p hr h1 h2 h
    have e : q ≠ t := fun e => by rw [e, hf] at hq3; exact pl_23 hq3
    exact ⟨q, hq, by rw [pl_un e]; exact hq3, hg, hp⟩
/-! a client begins -/
theorem pl_beg (H : pl_R nc nr nl nt ck bg S P M ph xs xp xq xg xv xf xl xc xh xw xz ym yf ys yp yq yl yg yv) {c : Nat} (hc : c < 8) (hm : M c = 0) (hbt : bg < nt) :
    pl_R nc nr nl nt (ck + 1) (bg + 1) (pl_nu S bg (ck + 1)) P (pl_nu M c (bg + 1)) (upd ph c 1) (upd xs c (nI (ck + 1))) xp xq xg xv (upd xf (ck + 1) 1) xl xc xh xw xz (upd ym c (nI bg)) (upd yf bg 1) (upd ys bg (nI (ck + 1))) yp (upd yq bg (-1)) yl yg yv := by
  obtain ⟨hSZ, hTS, hTI, hTP, hTJ, hTN, hTR, hT3, hCI, hCA, hCJ, hCG, hCF, hDF, hDL, hDC, hDN, hHE, hHX, hVE, hVX⟩ := H
  have hb : nt ≤ 32 := by unfold pl_SZ at hSZ; omega
  obtain ⟨hN1, hN2, hN3⟩ := hTN bg (Nat.le_refl bg) (by omega)
  have hM : ∀ c' t, pl_nu M c (bg + 1) c' = t + 1 → (c' = c ∧ t = bg) ∨ (c' ≠ c ∧ M c' = t + 1) := by
    intro c' t h
    by_cases e : c' = c
    · rw [e, pl_ns] at h; exact Or.inl ⟨e, by omega⟩
    · rw [pl_nn e] at h; exact Or.inr ⟨e, h⟩
  have hlt : ∀ c' t, c' < 8 → M c' = t + 1 → t < bg := fun c' t h1 h2 => (hCA c' t h1 h2).1
  have h2 : ∀ q, q < bg + 1 → upd yf bg 1 q = 2 → q < bg ∧ yf q = 2 := by
    intro q hq h
    by_cases e : q = bg
    · rw [e, pl_us] at h; exact absurd h pl_12
    · rw [pl_un e] at h; exact ⟨by omega, h⟩
  have h3 : ∀ q, upd yf bg 1 q = 3 → q ≠ bg ∧ yf q = 3 := by
    intro q h
    by_cases e : q = bg
    · rw [e, pl_us] at h; exact absurd h pl_13
    · rw [pl_un e] at h; exact ⟨e, h⟩
  have hSo : ∀ q, q < bg → pl_nu S bg (ck + 1) q = S q := fun q hq => pl_nn (by omega)
  refine ⟨?_, ?_, ?_, ?_, hTJ, ?_, hTR, ?_, ?_, ?_, ?_, ?_, ?_, ?_, ?_, ?_, ?_, ?_, ?_, ?_, ?_⟩
  · unfold pl_SZ at hSZ ⊢
    rw [pl_zc_s, if_pos hN2]
    omega
  · intro q hq
    by_cases e : q = bg
    · rw [e, pl_us, pl_ns]; exact ⟨rfl, by omega, by omega⟩
    · rw [pl_un e, pl_nn e]
      obtain ⟨a, b, d⟩ := hTS q (by omega)
      exact ⟨a, b, by omega⟩
  · intro q q' h1 h2
    rw [hSo q (by omega)]
    by_cases e : q' = bg
    · rw [e, pl_ns]
      have := (hTS q (by omega)).2.2
      omega
    · rw [pl_nn e]; exact hTI q q' h1 (by omega)
  · intro q hq
    obtain ⟨a, b⟩ := hTP q hq
    exact ⟨a, by omega⟩
  · intro q h1 h2
    rw [pl_un (by omega)]
    exact hTN q (by omega) h2
  · intro q hq h
    exact hT3 q hq (h3 q h).2
  · intro c' hc' h
    by_cases e : c' = c
    · rw [e, pl_ns] at h; omega
    · rw [pl_nn e] at h
      rw [pl_un e]
      exact hCI c' hc' h
  · intro c' t hc' h
    rcases hM c' t h with ⟨e, e'⟩ | ⟨e, h⟩
    · subst e; subst e'
      obtain ⟨i1, i2, i3, i4⟩ := hCI c' hc hm
      rw [pl_us, pl_us, pl_us, pl_ns, if_pos hN2]
      exact ⟨by omega, rfl, rfl, i2, i3, Or.inl rfl⟩
    · have l := hlt c' t hc' h
      rw [pl_un e, pl_un e, pl_un (show t ≠ bg by omega), hSo t l]
      obtain ⟨a, b⟩ := hCA c' t hc' h
      exact ⟨by omega, b⟩
  · intro c1 c2 t l1 l2 e1 e2
    rcases hM c1 t e1 with ⟨a1, b1⟩ | ⟨a1, b1⟩
    · rcases hM c2 t e2 with ⟨a2, b2⟩ | ⟨a2, b2⟩
      · omega
      · have := hlt c2 t l2 b2; omega
    · rcases hM c2 t e2 with ⟨a2, b2⟩ | ⟨a2, b2⟩
      · have := hlt c1 t l1 b1; omega
      · exact hCJ c1 c2 t l1 l2 b1 b2
  · intro c' t r hc' h hr
    rcases hM c' t h with ⟨e, e'⟩ | ⟨e, h⟩
    · subst e; subst e'
      rw [(hCI c' hc hm).2.2.2 r hr, hN3 r hr]
      exact ⟨rfl, fun z => absurd rfl z⟩
    · exact hCG c' t r hc' h hr
  · intro c' hc'
    by_cases e : c' = c
    · rw [e]
      refine Or.inr ⟨bg, pl_ns, Or.inl ⟨pl_us, pl_us, hN2, fun r hr => ?_⟩⟩
      rw [hN3 r hr]; exact pl_02
    · rw [pl_nn e]
      rcases hCF c' hc' with h | ⟨q, h1, h⟩
      · exact Or.inl (by rw [pl_un e]; exact h)
      · refine Or.inr ⟨q, h1, ?_⟩
        have l := hlt c' q hc' h1
        unfold pl_ok at h ⊢
        rw [pl_un e, pl_un (show q ≠ bg by omega)]
        exact h
  · intro q hq
    by_cases e : q = bg
    · rw [e, pl_us, pl_ns, pl_us]
    · have l := (hTS q (by omega)).2.2
      rw [pl_nn e, pl_un e, pl_un (show S q ≠ ck + 1 by omega)]
      exact hDF q (by omega)
  · intro q hq h
    obtain ⟨l, h⟩ := h2 q hq h
    rw [hSo q l]; exact hDL q l h
  · intro q hq h
    obtain ⟨e, h⟩ := h3 q h
    rw [hSo q (by omega)]; exact hDC q (by omega) h
  · intro s h1 h2 h
    have z := h bg (by omega)
    rw [pl_ns] at z
    rw [pl_un (fun e => z e.symm)]
    refine hDN s h1 h2 fun q hq => ?_
    have z' := h q (by omega)
    rw [hSo q hq] at z'
    exact z'
  · intro r q hr hq h hg
    obtain ⟨l, h⟩ := h2 q hq h
    rw [hSo q l]; exact hHE r q hr l h hg
  · intro r hr
    rcases hHX r hr with h | ⟨q, hq, h1, h2, h3⟩
    · exact Or.inl h
    · exact Or.inr ⟨q, by omega, by rw [pl_un (by omega)]; exact h1, h2, by rw [hSo q hq]; exact h3⟩
  · intro r q hr hq h hg
    obtain ⟨e, h⟩ := h3 q h
    exact hVE r q hr (by omega) h hg
  · intro r p hr h1 h2 h
    obtain ⟨q, hq, hq3, hg, hp⟩ := hVX r p hr h1 h2 h
    exact ⟨q, by omega, by rw [pl_un (by omega)]; exact hq3, hg, hp⟩
/-! a client puts -/
theorem pl_put (H : pl_R nc nr nl nt ck bg S P M ph xs xp xq xg xv xf xl xc xh xw xz ym yf ys yp yq yl yg yv) {c t r : Nat} {x : Int32} (hc : c < 8) (hm : M c = t + 1) (hp : ph c = 1) (hr : r < nr) :
    pl_R nc nr nl nt ck bg S P M ph xs xp xq (upd xg (c * 8 + r) 1) (upd xv (c * 8 + r) x) xf xl xc xh xw xz ym yf ys yp yq yl (upd yg (t * 8 + r) 1) (upd yv (t * 8 + r) x) := by
  obtain ⟨hSZ, hTS, hTI, hTP, hTJ, hTN, hTR, hT3, hCI, hCA, hCJ, hCG, hCF, hDF, hDL, hDC, hDN, hHE, hHX, hVE, hVX⟩ := H
  have hb : bg ≤ 32 ∧ nr ≤ 8 := by unfold pl_SZ at hSZ; omega
  have hr8 : r < 8 := by omega
  have ht : t < bg := (hCA c t hc hm).1
  have hf : yf t = 1 := by
    rcases hCF c hc with h | ⟨q, h1, h⟩
    · omega
    · have e : q = t := by omega
      subst e
      unfold pl_ok at h
      rw [hp] at h
      rcases h with h | h | h | h
      · exact h.2.1
      · exact absurd h.1 pl_12
      · exact absurd h.1 pl_13
      · exact absurd h.1 (by decide)
  have hne : ∀ q y, yf q = y → ¬ (1 : Int32) = y → q ≠ t := fun q y h z e => z (by rw [← h, e, hf])
  refine ⟨hSZ, hTS, hTI, hTP, hTJ, ?_, ?_, hT3, ?_, hCA, hCJ, ?_, ?_, hDF, hDL, hDC, hDN, ?_, ?_, ?_, ?_⟩
  · intro q h1 h2
    obtain ⟨a, b, d⟩ := hTN q h1 h2
    exact ⟨a, b, fun r' hr' => by rw [pl_c2 hr8 hr' (by omega)]; exact d r' hr'⟩
  · intro q r' hq h1 h2
    rw [pl_un (by omega)]
    exact hTR q r' hq h1 h2
  · intro c' hc' h
    obtain ⟨a, b, d, e⟩ := hCI c' hc' h
    exact ⟨a, b, d, fun r' hr' => by rw [pl_c2 hr8 hr' (fun z => by rw [z] at h; omega)]; exact e r' hr'⟩
  · intro c' q r' hc' h hr'
    by_cases e : c' = c
    · subst e
      have e : q = t := by omega
      subst e
      by_cases e' : r' = r
      · subst e'
        rw [pl_us, pl_us, pl_us, pl_us]
        exact ⟨rfl, fun _ => rfl⟩
      · rw [pl_c3 e', pl_c3 e', pl_c3 e', pl_c3 e']
        exact hCG c' q r' hc' h hr'
    · have e2 : q ≠ t := fun z => e (hCJ c' c t hc' hc (by rw [← z]; exact h) hm)
      rw [pl_c2 hr8 hr' e, pl_c2 hr8 hr' e2, pl_c2 hr8 hr' e, pl_c2 hr8 hr' e2]
      exact hCG c' q r' hc' h hr'
  · intro c' hc'
    rcases hCF c' hc' with h | ⟨q, h1, h⟩
    · exact Or.inl h
    · refine Or.inr ⟨q, h1, ?_⟩
      unfold pl_ok at h ⊢
      rcases h with ⟨a, b, d, h⟩ | h | h | h
      · refine Or.inl ⟨a, b, d, fun r' hr' => ?_⟩
        by_cases e : q * 8 + r' = t * 8 + r
        · rw [e, pl_us]; exact pl_12
        · rw [pl_un e]; exact h r' hr'
      · exact Or.inr (Or.inl h)
      · exact Or.inr (Or.inr (Or.inl h))
      · exact Or.inr (Or.inr (Or.inr h))
  · intro r' q hr' hq h hg
    rw [pl_c2 hr8 (by omega) (hne q 2 h pl_12)] at hg
    exact hHE r' q hr' hq h hg
  · intro r' hr'
    rcases hHX r' hr' with h | ⟨q, hq, h1, h2, h3⟩
    · exact Or.inl h
    · exact Or.inr ⟨q, hq, h1, by rw [pl_c2 hr8 (by omega) (hne q 2 h1 pl_12)]; exact h2, h3⟩
  · intro r' q hr' hq h hg
    have e := hne q 3 h pl_13
    rw [pl_c2 hr8 hr' e] at hg ⊢
    exact hVE r' q hr' hq h hg
  · intro r' p hr' h1 h2 h
    obtain ⟨q, hq, hq3, hg, hp⟩ := hVX r' p hr' h1 h2 h
    exact ⟨q, hq, hq3, by rw [pl_c2 hr8 hr' (hne q 3 hq3 pl_13)]; exact hg, hp⟩
end PLB
end
section
section PLC
variable {nc nr nl nt ck bg : Nat} {S P M : Nat → Nat} {ph xs xp xq xg xv xf xl xc xh xw xz ym yf ys yp yq yl yg yv : Nat → Int32}
theorem pl_cf (h : pl_CF P M ph yf yg) {c t : Nat} (hc : c < 8) (hm : M c = t + 1) : pl_ok ph yf yg P c t := by
  rcases h c hc with h | ⟨q, h1, h⟩
  · omega
  · have e : q = t := by omega
    subst e
    exact h
theorem pl_ok1 {c t : Nat} (h : pl_ok ph yf yg P c t) (hp : ph c = 1) : yf t = 1 ∧ P t = 0 ∧ ∀ r, r < 8 → yg (t * 8 + r) ≠ 2 := by
  unfold pl_ok at h
  rw [hp] at h
  rcases h with h | h | h | h
  · exact h.2
  · exact absurd h.1 (by decide)
  · exact absurd h.1 (by decide)
  · exact absurd h.1 (by decide)
theorem pl_ok2 {c t : Nat} (h : pl_ok ph yf yg P c t) (hp : ph c = 2) : (yf t = 2 ∨ yf t = 4) ∧ P t = 0 := by
  unfold pl_ok at h
  rw [hp] at h
  rcases h with h | h | h | h
  · exact absurd h.1 (by decide)
  · exact h.2
  · exact absurd h.1 (by decide)
  · exact absurd h.1 (by decide)
theorem pl_ok3 {c t : Nat} (h : pl_ok ph yf yg P c t) (hp : ph c = 3) : (yf t = 2 ∨ yf t = 4) ∧ P t ≠ 0 := by
  unfold pl_ok at h
  rw [hp] at h
  rcases h with h | h | h | h
  · exact absurd h.1 (by decide)
  · exact absurd h.1 (by decide)
  · exact h.2
  · exact absurd h.1 (by decide)
theorem pl_ok4 {c t : Nat} (h : pl_ok ph yf yg P c t) (hp : ph c = 4) : yf t = 3 := by
  unfold pl_ok at h
  rw [hp] at h
  rcases h with h | h | h | h
  · exact absurd h.1 (by decide)
  · exact absurd h.1 (by decide)
  · exact absurd h.1 (by decide)
  · exact h.2
/-! the first prewritten row: the transaction is pending from here -/
theorem pl_pend (H : pl_R nc nr nl nt ck bg S P M ph xs xp xq xg xv xf xl xc xh xw xz ym yf ys yp yq yl yg yv) {c t r : Nat} (hc : c < 8) (hm : M c = t + 1) (hp : ph c = 1) (hr : r < nr) :
    pl_R nc nr nl nt ck bg S P M (upd ph c 2) xs xp (upd xq c (nI r)) xg xv (upd xf (S t) 2) (upd xl (S t) (nI nl)) xc xh xw xz ym (upd yf t 2) ys yp (upd yq t (nI r)) (upd yl t (nI nl)) yg yv := by
  obtain ⟨hSZ, hTS, hTI, hTP, hTJ, hTN, hTR, hT3, hCI, hCA, hCJ, hCG, hCF, hDF, hDL, hDC, hDN, hHE, hHX, hVE, hVX⟩ := H
  have hb : bg ≤ 32 ∧ nr ≤ 8 := by unfold pl_SZ at hSZ; omega
  have ht : t < bg := (hCA c t hc hm).1
  obtain ⟨hf, hP, hg2⟩ := pl_ok1 (pl_cf hCF hc hm) hp
  have h3 : ∀ q, upd yf t 2 q = 3 → q ≠ t ∧ yf q = 3 := by
    intro q h
    by_cases e : q = t
    · rw [e, pl_us] at h; exact absurd h pl_23
    · rw [pl_un e] at h; exact ⟨e, h⟩
  have hne : ∀ q y, yf q = y → ¬ (1 : Int32) = y → q ≠ t := fun q y h z e => z (by rw [← h, e, hf])
  refine ⟨hSZ, hTS, hTI, hTP, hTJ, ?_, hTR, ?_, ?_, ?_, hCJ, hCG, ?_, ?_, ?_, ?_, ?_, ?_, ?_, ?_, ?_⟩
  · intro q h1 h2
    rw [pl_un (by omega)]
    exact hTN q h1 h2
  · intro q hq h
    exact hT3 q hq (h3 q h).2
  · intro c' hc' h
    rw [pl_un (fun z => by rw [z] at h; omega)]
    exact hCI c' hc' h
  · intro c' q hc' h
    by_cases e : c' = c
    · subst e
      have e : q = t := by omega
      subst e
      obtain ⟨a, b, d, f, _⟩ := hCA c' q hc' h
      rw [pl_us, pl_us]
      exact ⟨a, b, d, f, rfl, Or.inr (nI_pos (by omega))⟩
    · have e2 : q ≠ t := fun z => e (hCJ c' c t hc' hc (by rw [← z]; exact h) hm)
      rw [pl_un e, pl_un e2]
      exact hCA c' q hc' h
  · intro c' hc'
    by_cases e : c' = c
    · rw [e]
      exact Or.inr ⟨t, hm, Or.inr (Or.inl ⟨pl_us, Or.inl pl_us, hP⟩)⟩
    · rcases hCF c' hc' with h | ⟨q, h1, h⟩
      · exact Or.inl (by rw [pl_un e]; exact h)
      · have e2 : q ≠ t := fun z => e (hCJ c' c t hc' hc (by rw [← z]; exact h1) hm)
        refine Or.inr ⟨q, h1, ?_⟩
        unfold pl_ok at h ⊢
        rw [pl_un e, pl_un e2]
        exact h
  · intro q hq
    by_cases e : q = t
    · rw [e, pl_us, pl_us]
    · rw [pl_un e, pl_un (pl_Sj hTI hq ht e)]; exact hDF q hq
  · intro q hq h
    by_cases e : q = t
    · rw [e, pl_us, pl_us]
    · rw [pl_un e] at h ⊢
      rw [pl_un (pl_Sj hTI hq ht e)]; exact hDL q hq h
  · intro q hq h
    exact hDC q hq (h3 q h).2
  · intro s h1 h2 h
    rw [pl_un (fun e => h t ht e.symm)]
    exact hDN s h1 h2 h
  · intro r' q hr' hq h hg
    by_cases e : q = t
    · rw [e] at hg; exact absurd hg (hg2 r' (by omega))
    · rw [pl_un e] at h; exact hHE r' q hr' hq h hg
  · intro r' hr'
    rcases hHX r' hr' with h | ⟨q, hq, h1, h2, h3⟩
    · exact Or.inl h
    · exact Or.inr ⟨q, hq, by rw [pl_un (hne q 2 h1 pl_12)]; exact h1, h2, h3⟩
  · intro r' q hr' hq h hg
    exact hVE r' q hr' hq (h3 q h).2 hg
  · intro r' p hr' h1 h2 h
    obtain ⟨q, hq, hq3, hg, hp⟩ := hVX r' p hr' h1 h2 h
    exact ⟨q, hq, by rw [pl_un (hne q 3 hq3 pl_13)]; exact hq3, hg, hp⟩
/-! a row prewritten by a pending transaction: it is held -/
theorem pl_hold (H : pl_R nc nr nl nt ck bg S P M ph xs xp xq xg xv xf xl xc xh xw xz ym yf ys yp yq yl yg yv) {c t r : Nat} (hc : c < 8) (hm : M c = t + 1) (hp : ph c = 2) (hf : yf t = 2) (hr : r < nr) (hh : xh r = -1) (hs : yg (t * 8 + r) ≠ 0) :
    pl_R nc nr nl nt ck bg S P M ph xs xp xq (upd xg (c * 8 + r) 2) xv xf xl xc (upd xh r (nI (S t))) xw xz ym yf ys yp yq yl (upd yg (t * 8 + r) 2) yv := by
  obtain ⟨hSZ, hTS, hTI, hTP, hTJ, hTN, hTR, hT3, hCI, hCA, hCJ, hCG, hCF, hDF, hDL, hDC, hDN, hHE, hHX, hVE, hVX⟩ := H
  have hb : bg ≤ 32 ∧ nr ≤ 8 ∧ ck ≤ 64 := by unfold pl_SZ at hSZ; omega
  have hr8 : r < 8 := by omega
  have ht : t < bg := (hCA c t hc hm).1
  have hS : ∀ q, q < bg → S q < 2 ^ 31 := fun q hq => by have := (hTS q hq).2.2; omega
  have hne : ∀ q, yf q = 3 → q ≠ t := fun q h e => pl_23 (by rw [← h, e, hf])
  refine ⟨hSZ, hTS, hTI, hTP, hTJ, ?_, ?_, hT3, ?_, hCA, hCJ, ?_, ?_, hDF, hDL, hDC, hDN, ?_, ?_, ?_, ?_⟩
  · intro q h1 h2
    obtain ⟨a, b, d⟩ := hTN q h1 h2
    exact ⟨a, b, fun r' hr' => by rw [pl_c2 hr8 hr' (by omega)]; exact d r' hr'⟩
  · intro q r' hq h1 h2
    rw [pl_un (by omega)]
    exact hTR q r' hq h1 h2
  · intro c' hc' h
    obtain ⟨a, b, d, e⟩ := hCI c' hc' h
    exact ⟨a, b, d, fun r' hr' => by rw [pl_c2 hr8 hr' (fun z => by rw [z] at h; omega)]; exact e r' hr'⟩
  · intro c' q r' hc' h hr'
    by_cases e : c' = c
    · subst e
      have e : q = t := by omega
      subst e
      by_cases e' : r' = r
      · subst e'
        rw [pl_us, pl_us]
        exact ⟨rfl, fun _ => (hCG c' q r' hc' h hr').2 hs⟩
      · rw [pl_c3 e', pl_c3 e']
        exact hCG c' q r' hc' h hr'
    · have e2 : q ≠ t := fun z => e (hCJ c' c t hc' hc (by rw [← z]; exact h) hm)
      rw [pl_c2 hr8 hr' e, pl_c2 hr8 hr' e2]
      exact hCG c' q r' hc' h hr'
  · intro c' hc'
    by_cases e : c' = c
    · rw [e]
      exact Or.inr ⟨t, hm, Or.inr (Or.inl ⟨hp, Or.inl hf, (pl_ok2 (pl_cf hCF hc hm) hp).2⟩)⟩
    · rcases hCF c' hc' with h | ⟨q, h1, h⟩
      · exact Or.inl h
      · have e2 : q ≠ t := fun z => e (hCJ c' c t hc' hc (by rw [← z]; exact h1) hm)
        refine Or.inr ⟨q, h1, ?_⟩
        unfold pl_ok at h ⊢
        rcases h with ⟨a, b, d, h⟩ | h | h | h
        · exact Or.inl ⟨a, b, d, fun r' hr' => by rw [pl_c2 hr8 hr' e2]; exact h r' hr'⟩
        · exact Or.inr (Or.inl h)
        · exact Or.inr (Or.inr (Or.inl h))
        · exact Or.inr (Or.inr (Or.inr h))
  · intro r' q hr' hq h hg
    by_cases e : r' = r
    · subst e
      rw [pl_us]
      by_cases e2 : q = t
      · rw [e2]
      · rw [pl_c2 hr8 hr8 e2] at hg
        have z := hHE r' q hr' hq h hg
        rw [hh] at z
        exact absurd z.symm (pl_ne1 (hS q hq))
    · rw [pl_un e]
      rw [pl_un (by omega)] at hg
      exact hHE r' q hr' hq h hg
  · intro r' hr'
    by_cases e : r' = r
    · subst e
      exact Or.inr ⟨t, ht, hf, pl_us, pl_us⟩
    · rw [pl_un e]
      rcases hHX r' hr' with h | ⟨q, hq, h1, h2, h3⟩
      · exact Or.inl h
      · exact Or.inr ⟨q, hq, h1, by rw [pl_un (by omega)]; exact h2, h3⟩
  · intro r' q hr' hq h hg
    rw [pl_c2 hr8 hr' (hne q h)] at hg
    exact hVE r' q hr' hq h hg
  · intro r' p hr' h1 h2 h
    obtain ⟨q, hq, hq3, hg, hp⟩ := hVX r' p hr' h1 h2 h
    exact ⟨q, hq, hq3, by rw [pl_c2 hr8 hr' (hne q hq3)]; exact hg, hp⟩
/-! another stage for a row that has one, of a transaction that isn't pending: prewritten after a roll-back, committed -/
theorem pl_stg (H : pl_R nc nr nl nt ck bg S P M ph xs xp xq xg xv xf xl xc xh xw xz ym yf ys yp yq yl yg yv) {c t r : Nat} {x : Int32} (hc : c < 8) (hm : M c = t + 1) (hp : ¬ ph c = 1) (hf : ¬ yf t = 2) (hr : r < nr) (hs : yg (t * 8 + r) ≠ 0) (hx : x ≠ 0) :
    pl_R nc nr nl nt ck bg S P M ph xs xp xq (upd xg (c * 8 + r) x) xv xf xl xc xh xw xz ym yf ys yp yq yl (upd yg (t * 8 + r) x) yv := by
  obtain ⟨hSZ, hTS, hTI, hTP, hTJ, hTN, hTR, hT3, hCI, hCA, hCJ, hCG, hCF, hDF, hDL, hDC, hDN, hHE, hHX, hVE, hVX⟩ := H
  have hb : bg ≤ 32 ∧ nr ≤ 8 ∧ ck ≤ 64 := by unfold pl_SZ at hSZ; omega
  have hr8 : r < 8 := by omega
  have ht : t < bg := (hCA c t hc hm).1
  have hne : ∀ q, yf q = 2 → q ≠ t := fun q h e => hf (by rw [← e]; exact h)
  have hg0 : ∀ q r', upd yg (t * 8 + r) x (q * 8 + r') ≠ 0 ↔ yg (q * 8 + r') ≠ 0 := by
    intro q r'
    by_cases e : q * 8 + r' = t * 8 + r
    · rw [e, pl_us]; exact ⟨fun _ => hs, fun _ => hx⟩
    · rw [pl_un e]
  refine ⟨hSZ, hTS, hTI, hTP, hTJ, ?_, ?_, hT3, ?_, hCA, hCJ, ?_, ?_, hDF, hDL, hDC, hDN, ?_, ?_, ?_, ?_⟩
  · intro q h1 h2
    obtain ⟨a, b, d⟩ := hTN q h1 h2
    exact ⟨a, b, fun r' hr' => by rw [pl_c2 hr8 hr' (by omega)]; exact d r' hr'⟩
  · intro q r' hq h1 h2
    rw [pl_un (by omega)]
    exact hTR q r' hq h1 h2
  · intro c' hc' h
    obtain ⟨a, b, d, e⟩ := hCI c' hc' h
    exact ⟨a, b, d, fun r' hr' => by rw [pl_c2 hr8 hr' (fun z => by rw [z] at h; omega)]; exact e r' hr'⟩
  · intro c' q r' hc' h hr'
    by_cases e : c' = c
    · subst e
      have e : q = t := by omega
      subst e
      by_cases e' : r' = r
      · subst e'
        rw [pl_us, pl_us]
        exact ⟨rfl, fun _ => (hCG c' q r' hc' h hr').2 hs⟩
      · rw [pl_c3 e', pl_c3 e']
        exact hCG c' q r' hc' h hr'
    · have e2 : q ≠ t := fun z => e (hCJ c' c t hc' hc (by rw [← z]; exact h) hm)
      rw [pl_c2 hr8 hr' e, pl_c2 hr8 hr' e2]
      exact hCG c' q r' hc' h hr'
  · intro c' hc'
    rcases hCF c' hc' with h | ⟨q, h1, h⟩
    · exact Or.inl h
    · refine Or.inr ⟨q, h1, ?_⟩
      unfold pl_ok at h ⊢
      rcases h with ⟨a, b, d, h⟩ | h | h | h
      · have e2 : q ≠ t := fun z => hp (by rw [hCJ c c' t hc hc' hm (by rw [← z]; exact h1)]; exact a)
        exact Or.inl ⟨a, b, d, fun r' hr' => by rw [pl_c2 hr8 hr' e2]; exact h r' hr'⟩
      · exact Or.inr (Or.inl h)
      · exact Or.inr (Or.inr (Or.inl h))
      · exact Or.inr (Or.inr (Or.inr h))
  · intro r' q hr' hq h hg
    rw [pl_c2 hr8 (by omega) (hne q h)] at hg
    exact hHE r' q hr' hq h hg
  · intro r' hr'
    rcases hHX r' hr' with h | ⟨q, hq, h1, h2, h3⟩
    · exact Or.inl h
    · exact Or.inr ⟨q, hq, h1, by rw [pl_c2 hr8 (by omega) (hne q h1)]; exact h2, h3⟩
  · intro r' q hr' hq h hg
    exact hVE r' q hr' hq h ((hg0 q r').mp hg)
  · intro r' p hr' h1 h2 h
    obtain ⟨q, hq, hq3, hg, hp⟩ := hVX r' p hr' h1 h2 h
    exact ⟨q, hq, hq3, (hg0 q r').mpr hg, hp⟩
/-! a stamp is drawn -/
theorem pl_stamp (H : pl_R nc nr nl nt ck bg S P M ph xs xp xq xg xv xf xl xc xh xw xz ym yf ys yp yq yl yg yv) {c t : Nat} (hc : c < 8) (hm : M c = t + 1) (hp : ph c = 2) :
    pl_R nc nr nl nt (ck + 1) bg S (pl_nu P t (ck + 1)) M (upd ph c 3) xs (upd xp c (nI (ck + 1))) xq xg xv xf xl xc xh xw xz ym yf ys (upd yp t (nI (ck + 1))) yq yl yg yv := by
  obtain ⟨hSZ, hTS, hTI, hTP, hTJ, hTN, hTR, hT3, hCI, hCA, hCJ, hCG, hCF, hDF, hDL, hDC, hDN, hHE, hHX, hVE, hVX⟩ := H
  have hb : bg ≤ 32 ∧ nr ≤ 8 ∧ ck ≤ 64 := by unfold pl_SZ at hSZ; omega
  have ht : t < bg := (hCA c t hc hm).1
  obtain ⟨hf, hP⟩ := pl_ok2 (pl_cf hCF hc hm) hp
  have hne : ∀ q, yf q = 3 → q ≠ t := by
    intro q h e
    rw [e] at h
    rcases hf with z | z
    · rw [z] at h; exact pl_23 h
    · rw [z] at h; exact pl_43 h
  refine ⟨?_, ?_, hTI, ?_, ?_, ?_, hTR, ?_, ?_, ?_, hCJ, hCG, ?_, hDF, hDL, ?_, hDN, hHE, hHX, ?_, ?_⟩
  · have z := pl_zc_lo (x := ck + 1) hP (by omega) bg ht
    unfold pl_SZ at hSZ ⊢
    omega
  · intro q hq
    obtain ⟨a, b, d⟩ := hTS q hq
    exact ⟨a, b, by omega⟩
  · intro q hq
    by_cases e : q = t
    · rw [e, pl_us, pl_ns]; exact ⟨rfl, Nat.le_refl _⟩
    · rw [pl_un e, pl_nn e]
      obtain ⟨a, b⟩ := hTP q hq
      exact ⟨a, by omega⟩
  · intro q q' hq hq' h
    by_cases e : q = t
    · by_cases e' : q' = t
      · exact Or.inr (by omega)
      · rw [e, pl_ns, pl_nn e'] at h
        have := (hTP q' hq').2
        omega
    · by_cases e' : q' = t
      · rw [e', pl_ns, pl_nn e] at h
        have := (hTP q hq).2
        omega
      · rw [pl_nn e, pl_nn e'] at h
        rw [pl_nn e]
        exact hTJ q q' hq hq' h
  · intro q h1 h2
    rw [pl_nn (by omega)]
    exact hTN q h1 h2
  · intro q hq h
    rw [pl_nn (hne q h)]
    exact hT3 q hq h
  · intro c' hc' h
    rw [pl_un (fun z => by rw [z] at h; omega)]
    exact hCI c' hc' h
  · intro c' q hc' h
    by_cases e : c' = c
    · subst e
      have e : q = t := by omega
      subst e
      obtain ⟨a, b, d, _, f⟩ := hCA c' q hc' h
      rw [pl_us, pl_ns, if_neg (by omega)]
      exact ⟨a, b, d, rfl, f⟩
    · have e2 : q ≠ t := fun z => e (hCJ c' c t hc' hc (by rw [← z]; exact h) hm)
      rw [pl_un e, pl_nn e2]
      exact hCA c' q hc' h
  · intro c' hc'
    by_cases e : c' = c
    · rw [e]
      exact Or.inr ⟨t, hm, Or.inr (Or.inr (Or.inl ⟨pl_us, hf, by rw [pl_ns]; omega⟩))⟩
    · rcases hCF c' hc' with h | ⟨q, h1, h⟩
      · exact Or.inl (by rw [pl_un e]; exact h)
      · have e2 : q ≠ t := fun z => e (hCJ c' c t hc' hc (by rw [← z]; exact h1) hm)
        refine Or.inr ⟨q, h1, ?_⟩
        unfold pl_ok at h ⊢
        rw [pl_un e, pl_nn e2]
        exact h
  · intro q hq h
    rw [pl_nn (hne q h)]
    exact hDC q hq h
  · intro r q hr hq h hg
    rw [pl_nn (hne q h)]
    exact hVE r q hr hq h hg
  · intro r p hr h1 h2 h
    obtain ⟨q, hq, hq3, hg, hp⟩ := hVX r p hr h1 h2 h
    exact ⟨q, hq, hq3, hg, by rw [pl_nn (hne q hq3)]; exact hp⟩
end PLC
end
section
section PLD
variable {nc nr nl nt ck bg : Nat} {S P M : Nat → Nat} {ph xs xp xq xg xv xf xl xc xh xw xz ym yf ys yp yq yl yg yv : Nat → Int32}
/-! the primary is committed -/
theorem pl_comm (H : pl_R nc nr nl nt ck bg S P M ph xs xp xq xg xv xf xl xc xh xw xz ym yf ys yp yq yl yg yv) {c t : Nat} (hc : c < 8) (hm : M c = t + 1) (hp : ph c = 3) (hf : yf t = 2) {xw' xz' : Nat → Int32}
    (hw : ∀ r p, r < 8 → p < 65 → xw' (r * 65 + p) = if r < nr ∧ p = P t ∧ xg (c * 8 + r) ≠ 0 then 1 else xw (r * 65 + p))
    (hz : ∀ r p, r < 8 → p < 65 → xz' (r * 65 + p) = if r < nr ∧ p = P t ∧ xg (c * 8 + r) ≠ 0 then xv (c * 8 + r) else xz (r * 65 + p)) :
    pl_R nc nr nl nt ck bg S P M (upd ph c 4) xs xp xq xg xv (upd xf (S t) 3) xl (upd xc (S t) (nI (P t))) (pl_eh nr (nI (S t)) xh) xw' xz' ym (upd yf t 3) ys yp yq yl yg yv := by
  obtain ⟨hSZ, hTS, hTI, hTP, hTJ, hTN, hTR, hT3, hCI, hCA, hCJ, hCG, hCF, hDF, hDL, hDC, hDN, hHE, hHX, hVE, hVX⟩ := H
  have hb : bg ≤ 32 ∧ nr ≤ 8 ∧ ck ≤ 64 := by unfold pl_SZ at hSZ; omega
  have ht : t < bg := (hCA c t hc hm).1
  have hP : P t ≠ 0 := (pl_ok3 (pl_cf hCF hc hm) hp).2
  have hS : ∀ q, q < bg → S q < 2 ^ 31 := fun q hq => by have := (hTS q hq).2.2; omega
  have hPl : ∀ q, q < bg → P q < 65 := fun q hq => by have := (hTP q (by omega)).2; omega
  have hn : ∀ q, q < bg → q ≠ t → nI (S q) ≠ nI (S t) := fun q hq e z => pl_Sj hTI hq ht e (pl_im z (hS q hq) (hS t ht))
  have h2 : ∀ q, upd yf t 3 q = 2 → q ≠ t ∧ yf q = 2 := by
    intro q h
    by_cases e : q = t
    · rw [e, pl_us] at h; exact absurd h pl_32
    · rw [pl_un e] at h; exact ⟨e, h⟩
  refine ⟨hSZ, hTS, hTI, hTP, hTJ, ?_, hTR, ?_, hCI, hCA, hCJ, hCG, ?_, ?_, ?_, ?_, ?_, ?_, ?_, ?_, ?_⟩
  · intro q h1 h2
    rw [pl_un (by omega)]
    exact hTN q h1 h2
  · intro q hq h
    by_cases e : q = t
    · rw [e]; exact hP
    · rw [pl_un e] at h; exact hT3 q hq h
  · intro c' hc'
    by_cases e : c' = c
    · rw [e]
      exact Or.inr ⟨t, hm, Or.inr (Or.inr (Or.inr ⟨pl_us, pl_us⟩))⟩
    · rcases hCF c' hc' with h | ⟨q, h1, h⟩
      · exact Or.inl (by rw [pl_un e]; exact h)
      · have e2 : q ≠ t := fun z => e (hCJ c' c t hc' hc (by rw [← z]; exact h1) hm)
        refine Or.inr ⟨q, h1, ?_⟩
        unfold pl_ok at h ⊢
        rw [pl_un e, pl_un e2]
        exact h
  · intro q hq
    by_cases e : q = t
    · rw [e, pl_us, pl_us]
    · rw [pl_un e, pl_un (pl_Sj hTI hq ht e)]; exact hDF q hq
  · intro q hq h
    exact hDL q hq (h2 q h).2
  · intro q hq h
    by_cases e : q = t
    · rw [e, pl_us]
    · rw [pl_un e] at h
      rw [pl_un (pl_Sj hTI hq ht e)]; exact hDC q hq h
  · intro s h1 h2 h
    rw [pl_un (fun e => h t ht e.symm)]
    exact hDN s h1 h2 h
  · intro r q hr hq h hg
    obtain ⟨e, h⟩ := h2 q h
    have z := hHE r q hr hq h hg
    rw [pl_eh_o (by rw [z]; exact hn q hq e)]
    exact z
  · intro r hr
    by_cases z : xh r = nI (S t)
    · exact Or.inl (pl_eh_i hr z)
    · rw [pl_eh_o z]
      rcases hHX r hr with h | ⟨q, hq, h1, h2, h3⟩
      · exact Or.inl h
      · have e : q ≠ t := fun e => z (by rw [h3, e])
        exact Or.inr ⟨q, hq, by rw [pl_un e]; exact h1, h2, h3⟩
  · intro r q hr hq h hg
    rw [hw r (P q) hr (hPl q hq), hz r (P q) hr (hPl q hq)]
    by_cases e : q = t
    · subst e
      have g := hCG c q r hc hm hr
      have hn8 : r < nr := by
        by_cases l : r < nr
        · exact l
        · exact absurd (hTR q r (by omega) (by omega) hr) hg
      have cd : r < nr ∧ P q = P q ∧ xg (c * 8 + r) ≠ 0 := ⟨hn8, rfl, by rw [g.1]; exact hg⟩
      rw [if_pos cd, if_pos cd]
      exact ⟨rfl, g.2 hg⟩
    · rw [pl_un e] at h
      have p0 := hT3 q (by omega) h
      have ne : P q ≠ P t := fun z => by
        rcases hTJ q t (by omega) (by omega) z with a | a
        · exact p0 a
        · exact e a
      have cd : ¬ (r < nr ∧ P q = P t ∧ xg (c * 8 + r) ≠ 0) := fun z => ne z.2.1
      rw [if_neg cd, if_neg cd]
      exact hVE r q hr hq h hg
  · intro r p hr h1 h2 h
    rw [hw r p hr (by omega)] at h
    by_cases cd : r < nr ∧ p = P t ∧ xg (c * 8 + r) ≠ 0
    · exact ⟨t, ht, pl_us, by rw [← (hCG c t r hc hm hr).1]; exact cd.2.2, cd.2.1.symm⟩
    · rw [if_neg cd] at h
      obtain ⟨q, hq, hq3, hg, hpq⟩ := hVX r p hr h1 h2 h
      have e : q ≠ t := fun e => by rw [e, hf] at hq3; exact pl_23 hq3
      exact ⟨q, hq, by rw [pl_un e]; exact hq3, hg, hpq⟩
/-! leases -/
theorem pl_beat (H : pl_R nc nr nl nt ck bg S P M ph xs xp xq xg xv xf xl xc xh xw xz ym yf ys yp yq yl yg yv) {t : Nat} (ht : t < bg) :
    pl_R nc nr nl nt ck bg S P M ph xs xp xq xg xv xf (upd xl (S t) (nI nl)) xc xh xw xz ym yf ys yp yq (upd yl t (nI nl)) yg yv := by
  obtain ⟨hSZ, hTS, hTI, hTP, hTJ, hTN, hTR, hT3, hCI, hCA, hCJ, hCG, hCF, hDF, hDL, hDC, hDN, hHE, hHX, hVE, hVX⟩ := H
  refine ⟨hSZ, hTS, hTI, hTP, hTJ, hTN, hTR, hT3, hCI, hCA, hCJ, hCG, hCF, hDF, ?_, hDC, hDN, hHE, hHX, hVE, hVX⟩
  intro q hq h
  by_cases e : q = t
  · rw [e, pl_us, pl_us]
  · rw [pl_un e, pl_un (pl_Sj hTI hq ht e)]; exact hDL q hq h
def pl_lz (n x : Int32) : Int32 := if x ≤ n then 0 else x - n
def pl_xt (n : Int32) (xf xl : Nat → Int32) (i : Nat) : Nat → Int32 := fun s => if 1 ≤ s ∧ s < i ∧ xf s = 2 then pl_lz n (xl s) else xl s
def pl_yt (n : Int32) (yf yl : Nat → Int32) (i : Nat) : Nat → Int32 := fun t => if t < i ∧ yf t = 2 then pl_lz n (yl t) else yl t
theorem pl_tick (H : pl_R nc nr nl nt ck bg S P M ph xs xp xq xg xv xf xl xc xh xw xz ym yf ys yp yq yl yg yv) (n : Int32) :
    pl_R nc nr nl nt ck bg S P M ph xs xp xq xg xv xf (pl_xt n xf xl 65) xc xh xw xz ym yf ys yp yq (pl_yt n yf yl 32) yg yv := by
  obtain ⟨hSZ, hTS, hTI, hTP, hTJ, hTN, hTR, hT3, hCI, hCA, hCJ, hCG, hCF, hDF, hDL, hDC, hDN, hHE, hHX, hVE, hVX⟩ := H
  have hb : bg ≤ 32 ∧ nr ≤ 8 ∧ ck ≤ 64 := by unfold pl_SZ at hSZ; omega
  refine ⟨hSZ, hTS, hTI, hTP, hTJ, hTN, hTR, hT3, hCI, hCA, hCJ, hCG, hCF, hDF, ?_, hDC, hDN, hHE, hHX, hVE, hVX⟩
  intro q hq h
  have l := hTS q hq
  have e1 : pl_xt n xf xl 65 (S q) = pl_lz n (xl (S q)) := if_pos ⟨l.2.1, by omega, by rw [hDF q hq]; exact h⟩
  have e2 : pl_yt n yf yl 32 q = pl_lz n (yl q) := if_pos ⟨by omega, h⟩
  rw [e1, e2, hDL q hq h]
theorem pl_xt_s {n : Int32} {xf xl : Nat → Int32} {i : Nat} (hi : 1 ≤ i) : pl_xt n xf xl (i + 1) = if xf i = 2 then upd (pl_xt n xf xl i) i (pl_lz n (xl i)) else pl_xt n xf xl i := by
  funext s
  by_cases h : xf i = 2
  · rw [if_pos h]
    by_cases e : s = i
    · rw [e, pl_us]
      exact if_pos ⟨hi, by omega, h⟩
    · rw [pl_un e]
      unfold pl_xt
      by_cases z : 1 ≤ s ∧ s < i ∧ xf s = 2
      · have z' : 1 ≤ s ∧ s < i + 1 ∧ xf s = 2 := ⟨z.1, by omega, z.2.2⟩
        rw [if_pos z, if_pos z']
      · have z' : ¬ (1 ≤ s ∧ s < i + 1 ∧ xf s = 2) := fun y => z ⟨y.1, by omega, y.2.2⟩
        rw [if_neg z, if_neg z']
  · rw [if_neg h]
    unfold pl_xt
    by_cases e : s = i
    · have z : ¬ (1 ≤ s ∧ s < i ∧ xf s = 2) := fun y => by omega
      have z' : ¬ (1 ≤ s ∧ s < i + 1 ∧ xf s = 2) := fun y => by
        have w := y.2.2
        rw [e] at w
        exact h w
      rw [if_neg z, if_neg z']
    · by_cases z : 1 ≤ s ∧ s < i ∧ xf s = 2
      · have z' : 1 ≤ s ∧ s < i + 1 ∧ xf s = 2 := ⟨z.1, by omega, z.2.2⟩
        rw [if_pos z, if_pos z']
      · have z' : ¬ (1 ≤ s ∧ s < i + 1 ∧ xf s = 2) := fun y => z ⟨y.1, by omega, y.2.2⟩
        rw [if_neg z, if_neg z']
theorem pl_xt_i {n : Int32} {xf xl : Nat → Int32} {i : Nat} : pl_xt n xf xl i i = xl i := if_neg fun z => Nat.lt_irrefl i z.2.1
theorem pl_xt_1 {n : Int32} {xf xl : Nat → Int32} : pl_xt n xf xl 1 = xl := by
  funext s
  exact if_neg fun z => by omega
theorem pl_yt_s {n : Int32} {yf yl : Nat → Int32} {i : Nat} : pl_yt n yf yl (i + 1) = if yf i = 2 then upd (pl_yt n yf yl i) i (pl_lz n (yl i)) else pl_yt n yf yl i := by
  funext s
  by_cases h : yf i = 2
  · rw [if_pos h]
    by_cases e : s = i
    · rw [e, pl_us]
      exact if_pos ⟨by omega, h⟩
    · rw [pl_un e]
      unfold pl_yt
      by_cases z : s < i ∧ yf s = 2
      · have z' : s < i + 1 ∧ yf s = 2 := ⟨by omega, z.2⟩
        rw [if_pos z, if_pos z']
      · have z' : ¬ (s < i + 1 ∧ yf s = 2) := fun y => z ⟨by omega, y.2⟩
        rw [if_neg z, if_neg z']
  · rw [if_neg h]
    unfold pl_yt
    by_cases e : s = i
    · have z : ¬ (s < i ∧ yf s = 2) := fun y => by omega
      have z' : ¬ (s < i + 1 ∧ yf s = 2) := fun y => by
        have w := y.2
        rw [e] at w
        exact h w
      rw [if_neg z, if_neg z']
    · by_cases z : s < i ∧ yf s = 2
      · have z' : s < i + 1 ∧ yf s = 2 := ⟨by omega, z.2⟩
        rw [if_pos z, if_pos z']
      · have z' : ¬ (s < i + 1 ∧ yf s = 2) := fun y => z ⟨by omega, y.2⟩
        rw [if_neg z, if_neg z']
theorem pl_yt_i {n : Int32} {yf yl : Nat → Int32} {i : Nat} : pl_yt n yf yl i i = yl i := if_neg fun z => Nat.lt_irrefl i z.1
theorem pl_yt_0 {n : Int32} {yf yl : Nat → Int32} : pl_yt n yf yl 0 = yl := by
  funext s
  exact if_neg fun z => by omega
/-! the start -/
theorem pl_start {nc nr nl nt : Nat} (h1 : 1 ≤ nc ∧ nc ≤ 8) (h2 : 2 ≤ nr ∧ nr ≤ 8) (h3 : 1 ≤ nl ∧ nl ≤ 100) (h4 : 8 ≤ nt ∧ nt ≤ 32) {ph xs xp xq xg xh : Nat → Int32}
    (e0 : ∀ c, c < 8 → ph c = 0) (e1 : ∀ c, c < 8 → xs c = -1) (e2 : ∀ c, c < 8 → xp c = -1) (e3 : ∀ c, c < 8 → xq c = -1) (e4 : ∀ j, j < 64 → xg j = 0) (e5 : ∀ r, r < 8 → xh r = -1) (xv xl xc xz ym ys yq yl yv : Nat → Int32) :
    pl_R nc nr nl nt 0 0 (fun _ => 0) (fun _ => 0) (fun _ => 0) ph xs xp xq xg xv (fun _ => 0) xl xc xh (fun _ => 0) xz ym (fun _ => 0) ys (fun _ => 0) yq yl (fun _ => 0) yv := by
  refine ⟨?_, ?_, ?_, ?_, ?_, ?_, ?_, ?_, ?_, ?_, ?_, ?_, ?_, ?_, ?_, ?_, ?_, ?_, ?_, ?_, ?_⟩
  · have z : pl_zc (fun _ => 0) 0 = 0 := rfl
    unfold pl_SZ
    omega
  · intro t h; omega
  · intro t t' h h'; omega
  · intro t h; exact ⟨nI_0.symm, Nat.le_refl _⟩
  · intro t t' h h' e; exact Or.inl rfl
  · intro t h h'; exact ⟨rfl, rfl, fun _ _ => rfl⟩
  · intro t r h h' h''; rfl
  · intro t h e
    have e' : (0 : Int32) = 3 := e
    exact absurd e' (by decide)
  · intro c h e; exact ⟨e1 c h, e2 c h, e3 c h, fun r hr => e4 _ (by omega)⟩
  · intro c t h e
    have e' : 0 = t + 1 := e
    omega
  · intro c c' t h h' e
    have e' : 0 = t + 1 := e
    omega
  · intro c t r h e
    have e' : 0 = t + 1 := e
    omega
  · intro c h; exact Or.inl ⟨rfl, e0 c h⟩
  · intro t h; omega
  · intro t h; omega
  · intro t h; omega
  · intro s h1 h2 h; rfl
  · intro r t h h'; omega
  · intro r h; exact Or.inl (e5 r (by omega))
  · intro r t h h'; omega
  · intro r p h h1 h2 e; exact absurd rfl e
end PLD
end
section
section PLE
variable {nc nr nl nt ck bg : Nat} {S P M : Nat → Nat} {ph xs xp xq xg xv xf xl xc xh xw xz ym yf ys yp yq yl yg yv : Nat → Int32}
/-! what the relation says where the two sides look a thing up -/
theorem pl_b (H : pl_R nc nr nl nt ck bg S P M ph xs xp xq xg xv xf xl xc xh xw xz ym yf ys yp yq yl yg yv) :
    1 ≤ nc ∧ nc ≤ 8 ∧ 2 ≤ nr ∧ nr ≤ 8 ∧ 1 ≤ nl ∧ nl ≤ 100 ∧ 8 ≤ nt ∧ nt ≤ 32 ∧ bg ≤ nt ∧ ck ≤ 2 * bg := by
  have h := H.1
  unfold pl_SZ at h
  omega
/-- a client: idle, or with a transaction -/
theorem pl_cl (H : pl_R nc nr nl nt ck bg S P M ph xs xp xq xg xv xf xl xc xh xw xz ym yf ys yp yq yl yg yv) {c : Nat} (hc : c < 8) :
    (M c = 0 ∧ ph c = 0 ∧ xs c = -1 ∧ xp c = -1 ∧ xq c = -1 ∧ ∀ r, r < 8 → xg (c * 8 + r) = 0) ∨
    ∃ t, M c = t + 1 ∧ t < bg ∧ ¬ ph c = 0 ∧ ym c = nI t ∧ xs c = nI (S t) ∧ ys t = nI (S t) ∧ 1 ≤ S t ∧ S t ≤ 64 ∧ xf (S t) = yf t ∧ pl_ok ph yf yg P c t ∧ xq c = yq t ∧ (yq t = -1 ∨ ¬ yq t < 0) ∧
      (∀ r, r < 8 → xg (c * 8 + r) = yg (t * 8 + r) ∧ (yg (t * 8 + r) ≠ 0 → xv (c * 8 + r) = yv (t * 8 + r))) ∧ xp c = (if P t = 0 then -1 else nI (P t)) ∧ yp t = nI (P t) ∧ P t ≤ 64 := by
  have hb := pl_b H
  obtain ⟨hSZ, hTS, hTI, hTP, hTJ, hTN, hTR, hT3, hCI, hCA, hCJ, hCG, hCF, hDF, hDL, hDC, hDN, hHE, hHX, hVE, hVX⟩ := H
  rcases hCF c hc with h | ⟨t, h1, h⟩
  · obtain ⟨a, b, d, e⟩ := hCI c hc h.1
    exact Or.inl ⟨h.1, h.2, a, b, d, e⟩
  · obtain ⟨a, b, d, e, f, g⟩ := hCA c t hc h1
    obtain ⟨s1, s2, s3⟩ := hTS t a
    obtain ⟨p1, p2⟩ := hTP t (by omega)
    refine Or.inr ⟨t, h1, a, ?_, b, d, s1, s2, by omega, hDF t a, h, f, g, fun r hr => hCG c t r hc h1 hr, e, p1, by omega⟩
    intro z
    unfold pl_ok at h
    rw [z] at h
    rcases h with h | h | h | h
    · exact absurd h.1 (by decide)
    · exact absurd h.1 (by decide)
    · exact absurd h.1 (by decide)
    · exact absurd h.1 (by decide)
/-- the newest version of a row up to a time -/
theorem pl_new (H : pl_R nc nr nl nt ck bg S P M ph xs xp xq xg xv xf xl xc xh xw xz ym yf ys yp yq yl yg yv) {r : Nat} (hr : r < 8) (A : Nat → Prop) :
    (∃ t, t < bg ∧ yf t = 3 ∧ yg (t * 8 + r) ≠ 0 ∧ A (P t) ∧ 1 ≤ P t ∧ P t ≤ 64 ∧ yp t = nI (P t) ∧ xw (r * 65 + P t) ≠ 0 ∧ xz (r * 65 + P t) = yv (t * 8 + r) ∧
      (∀ q, P t < q → q ≤ 64 → A q → xw (r * 65 + q) = 0) ∧ (∀ t', t' < 32 → yf t' = 3 → yg (t' * 8 + r) ≠ 0 → A (P t') → t' ≠ t → P t' < P t)) ∨
    ((∀ q, 1 ≤ q → q ≤ 64 → A q → xw (r * 65 + q) = 0) ∧ (∀ t', t' < 32 → yf t' = 3 → yg (t' * 8 + r) ≠ 0 → ¬ A (P t'))) := by
  have hb := pl_b H
  obtain ⟨hSZ, hTS, hTI, hTP, hTJ, hTN, hTR, hT3, hCI, hCA, hCJ, hCG, hCF, hDF, hDL, hDC, hDN, hHE, hHX, hVE, hVX⟩ := H
  have h1 : ∀ t', t' < 32 → yf t' = 3 → yg (t' * 8 + r) ≠ 0 → t' < bg ∧ 1 ≤ P t' ∧ P t' ≤ 64 ∧ xw (r * 65 + P t') = 1 ∧ xz (r * 65 + P t') = yv (t' * 8 + r) := by
    intro t' l h g
    have lt : t' < bg := by
      by_cases z : t' < bg
      · exact z
      · have := (hTN t' (by omega) l).1
        rw [h] at this
        exact absurd this (by decide)
    have a := hT3 t' l h
    have b := (hTP t' l).2
    have d := hVE r t' hr lt h g
    exact ⟨lt, by omega, by omega, d.1, d.2⟩
  have n10 : ¬ (1 : Int32) = 0 := by decide
  rcases pl_great (fun p => A p ∧ xw (r * 65 + p) ≠ 0) 64 with ⟨p, l1, l2, ⟨hA, hw⟩, hm⟩ | hm
  · obtain ⟨t, ht, hf, hg, hP⟩ := hVX r p hr l1 l2 hw
    subst hP
    obtain ⟨_, _, _, e1, e2⟩ := h1 t (by omega) hf hg
    refine Or.inl ⟨t, ht, hf, hg, hA, l1, l2, (hTP t (by omega)).1, hw, e2, ?_, ?_⟩
    · intro q lq lq' hq
      by_cases z : xw (r * 65 + q) = 0
      · exact z
      · exact absurd ⟨hq, z⟩ (hm q lq lq')
    · intro t' lt' hf' hg' hA' ne
      obtain ⟨b1, b2, b3, b4, _⟩ := h1 t' lt' hf' hg'
      rcases Nat.lt_trichotomy (P t') (P t) with z | z | z
      · exact z
      · rcases hTJ t' t lt' (by omega) z with y | y
        · omega
        · exact absurd y ne
      · exact absurd ⟨hA', by rw [b4]; exact n10⟩ (hm (P t') z b3)
  · refine Or.inr ⟨?_, ?_⟩
    · intro q lq lq' hq
      by_cases z : xw (r * 65 + q) = 0
      · exact z
      · exact absurd ⟨hq, z⟩ (hm q lq lq')
    · intro t' lt' hf' hg' hA'
      obtain ⟨b1, b2, b3, b4, _⟩ := h1 t' lt' hf' hg'
      exact hm (P t') b2 b3 ⟨hA', by rw [b4]; exact n10⟩
/-- who holds a row -/
theorem pl_hd (H : pl_R nc nr nl nt ck bg S P M ph xs xp xq xg xv xf xl xc xh xw xz ym yf ys yp yq yl yg yv) {r : Nat} (hr : r < nr) :
    (xh r = -1 ∧ ∀ t, t < 32 → yf t = 2 → ¬ yg (t * 8 + r) = 2) ∨
    ∃ t, t < bg ∧ yf t = 2 ∧ yg (t * 8 + r) = 2 ∧ xh r = nI (S t) ∧ ys t = nI (S t) ∧ 1 ≤ S t ∧ S t ≤ 64 ∧ xl (S t) = yl t ∧ (∀ t', t' < 32 → yf t' = 2 → yg (t' * 8 + r) = 2 → t' = t) := by
  have hb := pl_b H
  obtain ⟨hSZ, hTS, hTI, hTP, hTJ, hTN, hTR, hT3, hCI, hCA, hCJ, hCG, hCF, hDF, hDL, hDC, hDN, hHE, hHX, hVE, hVX⟩ := H
  have hlt : ∀ t', t' < 32 → yf t' = 2 → t' < bg := by
    intro t' l h
    by_cases z : t' < bg
    · exact z
    · have := (hTN t' (by omega) l).1
      rw [h] at this
      exact absurd this (by decide)
  have hS : ∀ q, q < bg → S q < 2 ^ 31 := fun q hq => by have := (hTS q hq).2.2; omega
  rcases hHX r hr with h | ⟨t, ht, h1, h2, h3⟩
  · refine Or.inl ⟨h, fun t l f g => ?_⟩
    have lt := hlt t l f
    have z := hHE r t hr lt f g
    rw [h] at z
    exact pl_ne1 (hS t lt) z.symm
  · obtain ⟨s1, s2, s3⟩ := hTS t ht
    refine Or.inr ⟨t, ht, h1, h2, h3, s1, s2, by omega, hDL t ht h1, fun t' l f g => ?_⟩
    have lt := hlt t' l f
    have z := hHE r t' hr lt f g
    rw [h3] at z
    by_cases e : t' = t
    · exact e
    · exact absurd (pl_im z (hS t ht) (hS t' lt)).symm (pl_Sj hTI lt ht e)
/-- a start timestamp -/
theorem pl_fd (H : pl_R nc nr nl nt ck bg S P M ph xs xp xq xg xv xf xl xc xh xw xz ym yf ys yp yq yl yg yv) (s : Int32) :
    (∃ t, t < bg ∧ s = nI (S t) ∧ 1 ≤ S t ∧ S t ≤ 64 ∧ xf (S t) = yf t ∧ (yf t = 2 → xl (S t) = yl t) ∧ (yf t = 3 → xc (S t) = yp t) ∧ ys t = s ∧ (∀ t', t' < 32 → ¬ yf t' = 0 → ys t' = s → t' = t)) ∨
    ((∀ j, 1 ≤ j → j ≤ 64 → s = nI j → xf j = 0) ∧ (∀ t', t' < 32 → ¬ yf t' = 0 → ¬ ys t' = s)) := by
  have hb := pl_b H
  obtain ⟨hSZ, hTS, hTI, hTP, hTJ, hTN, hTR, hT3, hCI, hCA, hCJ, hCG, hCF, hDF, hDL, hDC, hDN, hHE, hHX, hVE, hVX⟩ := H
  have hlt : ∀ t', t' < 32 → ¬ yf t' = 0 → t' < bg := by
    intro t' l h
    by_cases z : t' < bg
    · exact z
    · exact absurd (hTN t' (by omega) l).1 h
  have hS : ∀ q, q < bg → S q < 2 ^ 31 := fun q hq => by have := (hTS q hq).2.2; omega
  by_cases h : ∃ t, t < bg ∧ s = nI (S t)
  · obtain ⟨t, ht, hs⟩ := h
    obtain ⟨s1, s2, s3⟩ := hTS t ht
    refine Or.inl ⟨t, ht, hs, s2, by omega, hDF t ht, hDL t ht, fun f => ?_, by rw [hs]; exact s1, fun t' l f e => ?_⟩
    · rw [hDC t ht f]; exact (hTP t (by omega)).1.symm
    · have lt := hlt t' l f
      rw [(hTS t' lt).1, hs] at e
      by_cases z : t' = t
      · exact z
      · exact absurd (pl_im e (hS t' lt) (hS t ht)) (pl_Sj hTI lt ht z)
  · refine Or.inr ⟨fun j l1 l2 e => ?_, fun t' l f e => ?_⟩
    · exact hDN j l1 l2 fun t ht z => h ⟨t, ht, by rw [z]; exact e⟩
    · have lt := hlt t' l f
      exact h ⟨t', lt, by rw [← e]; exact (hTS t' lt).1⟩
end PLE
end
section
section PLF
variable {nc nr nl nt ck bg : Nat} {S P M : Nat → Nat} {ph xs xp xq xg xv xf xl xc xh xw xz ym yf ys yp yq yl yg yv : Nat → Int32}
theorem pl_mul (a b : Nat) : nI a * nI b = nI (a * b) := (Int32.ofNat_mul a b).symm
theorem pl_cc (c r : Nat) : nI c * 8 + nI r = nI (c * 8 + r) := by
  have h : nI c * 8 = nI (c * 8) := pl_mul c 8
  rw [h, nI_add]
theorem pl_vc (c r : Nat) : nI c * 65 + nI r = nI (c * 65 + r) := by
  have h : nI c * 65 = nI (c * 65) := pl_mul c 65
  rw [h, nI_add]
theorem pl_le8 {a : Nat} (h : a < 2 ^ 31) : (8 : Int32) ≤ nI a ↔ 8 ≤ a := nI_leI (a := 8) (by decide) h
theorem pl_le32 {a : Nat} (h : a < 2 ^ 31) : (32 : Int32) ≤ nI a ↔ 32 ≤ a := nI_leI (a := 32) (by decide) h
theorem pl_lt64 {a : Nat} (h : a < 2 ^ 31) : (64 : Int32) < nI a ↔ 64 < a := nI_ltI (a := 64) (by decide) h
theorem pl_lt1 {a : Nat} (h : a < 2 ^ 31) : nI a < (1 : Int32) ↔ a < 1 := nI_ltI (b := 1) h (by decide)
theorem pl_lt8 {a : Nat} (h : a < 2 ^ 31) : nI a < (8 : Int32) ↔ a < 8 := nI_ltI (b := 8) h (by decide)
theorem pl_lt32 {a : Nat} (h : a < 2 ^ 31) : nI a < (32 : Int32) ↔ a < 32 := nI_ltI (b := 32) h (by decide)
theorem pl_10 : ¬ (1 : Int32) = 0 := by decide
theorem pl_nq : (¬ (1 : Int32) = 0) ∧ (¬ (2 : Int32) = 0) ∧ (¬ (3 : Int32) = 0) ∧ (¬ (4 : Int32) = 0) ∧ (¬ (0 : Int32) = 1) ∧ (¬ (2 : Int32) = 1) ∧ (¬ (3 : Int32) = 1) ∧ (¬ (4 : Int32) = 1) ∧ (¬ (0 : Int32) = 2) ∧ (¬ (1 : Int32) = 2) ∧ (¬ (3 : Int32) = 2) ∧ (¬ (4 : Int32) = 2) ∧ (¬ (0 : Int32) = 3) ∧ (¬ (1 : Int32) = 3) ∧ (¬ (2 : Int32) = 3) ∧ (¬ (4 : Int32) = 3) ∧ (¬ (0 : Int32) = 4) ∧ (¬ (1 : Int32) = 4) ∧ (¬ (2 : Int32) = 4) ∧ (¬ (3 : Int32) = 4) ∧ (¬ (-4 : Int32) = 0) ∧ (¬ (-8 : Int32) = 0) ∧ (¬ (-11 : Int32) = 0) := by decide
theorem pl_m1 : ((-1 : Int32) < 0) ∧ (¬ (0 : Int32) ≤ -1) ∧ ((-1 : Int32) = -1) := by decide
theorem pl_ix (x : Int32) {n : Nat} (hn : n < 2 ^ 31) : x < 0 ∨ (¬ x < 0 ∧ nI n ≤ x ∧ ¬ x < nI n) ∨ ∃ j : Nat, j < n ∧ x = nI j := by
  by_cases h : x < 0
  · exact Or.inl h
  · obtain ⟨j, hj, rfl⟩ := nI_of h
    by_cases l : j < n
    · exact Or.inr (Or.inr ⟨j, l, rfl⟩)
    · exact Or.inr (Or.inl ⟨h, nI_le (by omega) hj, nI_nlt (by omega) hj⟩)
/-- the relation of the two states -/
def i_Rel (_ : Nat) (u : SX) (v : SY) : Prop := ∃ (nc nr nl nt ck bg : Nat) (S P M : Nat → Nat) (ph xs xp xq xg xv xf xl xc xh xw xz ym yf ys yp yq yl yg yv : Nat → Int32), u = (nI nc, nI nr, nI nl, nI nt, nI ck, nI bg, ph, xs, xp, xq, xg, xv, xf, xl, xc, xh, xw, xz) ∧ v = (nI nc, nI nr, nI nl, nI nt, nI ck, nI bg, ph, ym, yf, ys, yp, yq, yl, yg, yv) ∧ pl_R nc nr nl nt ck bg S P M ph xs xp xq xg xv xf xl xc xh xw xz ym yf ys yp yq yl yg yv
theorem i_up {k : Nat} {u : SX} {v : SY} (h : i_Rel k u v) : i_Rel (k + 4) u v := h
theorem pl_mk {k : Nat} (H : pl_R nc nr nl nt ck bg S P M ph xs xp xq xg xv xf xl xc xh xw xz ym yf ys yp yq yl yg yv) : i_Rel k (nI nc, nI nr, nI nl, nI nt, nI ck, nI bg, ph, xs, xp, xq, xg, xv, xf, xl, xc, xh, xw, xz) (nI nc, nI nr, nI nl, nI nt, nI ck, nI bg, ph, ym, yf, ys, yp, yq, yl, yg, yv) := ⟨nc, nr, nl, nt, ck, bg, S, P, M, ph, xs, xp, xq, xg, xv, xf, xl, xc, xh, xw, xz, ym, yf, ys, yp, yq, yl, yg, yv, rfl, rfl, H⟩
/-! X's own methods that loop -/
def pl_zi (c i : Nat) (f : Nat → Int32) : Nat → Int32 := fun j => if c * 8 ≤ j ∧ j < c * 8 + i then 0 else f j
theorem pl_zi_0 {c : Nat} {f : Nat → Int32} : pl_zi c 0 f = f := by
  funext j
  exact if_neg (by omega)
theorem pl_zi_s {c i : Nat} {f : Nat → Int32} : upd (pl_zi c i f) (c * 8 + i) 0 = pl_zi c (i + 1) f := by
  funext j
  unfold pl_zi
  by_cases e : j = c * 8 + i
  · have z : c * 8 ≤ j ∧ j < c * 8 + (i + 1) := by omega
    rw [e, pl_us, if_pos (by omega)]
  · rw [pl_un e]
    by_cases h : c * 8 ≤ j ∧ j < c * 8 + i
    · have z : c * 8 ≤ j ∧ j < c * 8 + (i + 1) := by omega
      rw [if_pos h, if_pos z]
    · have z : ¬ (c * 8 ≤ j ∧ j < c * 8 + (i + 1)) := by omega
      rw [if_neg h, if_neg z]
section XI
variable {f0 f1 f2 f3 f4 f5 : Int32}
theorem px_idl {post : SX → Prop} {c : Nat} (hc : c < 8) (hp : post (f0, f1, f2, f3, f4, f5, ph, xs, xp, xq, pl_zr c xg, xv, xf, xl, xc, xh, xw, xz)) : ∀ d i, i + d = 8 → wX_becomeIdle_30 post (nI c) f0 f1 f2 f3 f4 f5 (d + 1) (nI i) ph xs xp xq (pl_zi c i xg) xv xf xl xc xh xw xz := by
  intro d
  induction d with
  | zero =>
    intro i hi
    have e : i = 8 := by omega
    subst e
    exact br_t (nI_le (Nat.le_refl 8) (by decide)) hp
  | succ d ih =>
    intro i hi
    have h8 : ¬ 8 ≤ i := by omega
    have k := ih (i + 1) (by omega)
    rw [← pl_zi_s] at k
    rw [wX_becomeIdle_30]
    simp (disch := omega) only [wpX_clientCell, h8, pl_cc, pl_vc, pl_le8, pl_le32, pl_lt64, pl_lt1, pl_lt8, pl_lt32, nI_pos, nI_pos', vp_in_nI, nI_clamp, nI_1, nI_leI, nI_ltI, nI_eq, forall_eq, true_implies, forall_const, not_true_eq_false, not_false_eq_true, false_implies, and_true, true_and, implies_true, and_self, eq_self]
    exact k
theorem px_idle {post : SX → Prop} {c : Nat} (hc : c < 8) (hp : post (f0, f1, f2, f3, f4, f5, upd ph c 0, upd xs c (-1), upd xp c (-1), upd xq c (-1), pl_zr c xg, xv, xf, xl, xc, xh, xw, xz)) : wpX_becomeIdle post (f0, f1, f2, f3, f4, f5, ph, xs, xp, xq, xg, xv, xf, xl, xc, xh, xw, xz) (nI c) := by
  have k := px_idl (f0 := f0) (f1 := f1) (f2 := f2) (f3 := f3) (f4 := f4) (f5 := f5) hc hp 8 0 rfl
  rw [pl_zi_0, nI_0] at k
  simp (disch := omega) only [wpX_becomeIdle, pl_cc, pl_vc, pl_le8, pl_le32, pl_lt64, pl_lt1, pl_lt8, pl_lt32, nI_pos, nI_pos', vp_in_nI, nI_clamp, nI_1, nI_leI, nI_ltI, nI_eq, forall_eq, true_implies, forall_const, not_true_eq_false, not_false_eq_true, false_implies, and_true, true_and, implies_true, and_self, eq_self]
  exact ⟨9, k⟩
end XI
theorem pl_eh_0 {x : Int32} {f : Nat → Int32} : pl_eh 0 x f = f := by
  funext j
  exact if_neg (by omega)
theorem pl_eh_at {i : Nat} {x : Int32} {f : Nat → Int32} : pl_eh i x f i = f i := if_neg (by omega)
theorem pl_eh_t {i : Nat} {x : Int32} {f : Nat → Int32} (h : f i = x) : upd (pl_eh i x f) i (-1) = pl_eh (i + 1) x f := by
  funext j
  by_cases e : j = i
  · rw [e, pl_us]
    exact (if_pos ⟨by omega, h⟩).symm
  · rw [pl_un e]
    unfold pl_eh
    by_cases z : j < i ∧ f j = x
    · have z' : j < i + 1 ∧ f j = x := ⟨by omega, z.2⟩
      rw [if_pos z, if_pos z']
    · have z' : ¬ (j < i + 1 ∧ f j = x) := fun y => z ⟨by omega, y.2⟩
      rw [if_neg z, if_neg z']
theorem pl_eh_f {i : Nat} {x : Int32} {f : Nat → Int32} (h : ¬ f i = x) : pl_eh (i + 1) x f = pl_eh i x f := by
  funext j
  unfold pl_eh
  by_cases e : j = i
  · have z : ¬ (j < i ∧ f j = x) := by omega
    have z' : ¬ (j < i + 1 ∧ f j = x) := fun y => h (by rw [← e]; exact y.2)
    rw [if_neg z, if_neg z']
  · by_cases z : j < i ∧ f j = x
    · have z' : j < i + 1 ∧ f j = x := ⟨by omega, z.2⟩
      rw [if_pos z, if_pos z']
    · have z' : ¬ (j < i + 1 ∧ f j = x) := fun y => z ⟨by omega, y.2⟩
      rw [if_neg z, if_neg z']
theorem px_ehl {post : SX → Prop} {x : Int32} (hn : nr ≤ 8) (hp : post (nI nc, nI nr, nI nl, nI nt, nI ck, nI bg, ph, xs, xp, xq, xg, xv, xf, xl, xc, pl_eh nr x xh, xw, xz)) : ∀ d i, i + d = nr → wX_endHolds_2 post x (nI nc) (nI nr) (nI nl) (nI nt) (nI ck) (nI bg) (d + 1) (nI i) ph xs xp xq xg xv xf xl xc (pl_eh i x xh) xw xz := by
  intro d
  induction d with
  | zero =>
    intro i hi
    have e : i = nr := by omega
    subst e
    exact br_t (nI_le (Nat.le_refl i) (by omega)) hp
  | succ d ih =>
    intro i hi
    have h8 : ¬ nr ≤ i := by omega
    have k := ih (i + 1) (by omega)
    by_cases h : xh i = x
    · rw [← pl_eh_t h] at k
      rw [wX_endHolds_2]
      simp (disch := omega) only [h8, pl_eh_at, h, pl_cc, pl_vc, pl_le8, pl_le32, pl_lt64, pl_lt1, pl_lt8, pl_lt32, nI_pos, nI_pos', vp_in_nI, nI_clamp, nI_1, nI_leI, nI_ltI, nI_eq, forall_eq, true_implies, forall_const, not_true_eq_false, not_false_eq_true, false_implies, and_true, true_and, implies_true, and_self, eq_self]
      exact k
    · rw [pl_eh_f h] at k
      rw [wX_endHolds_2]
      simp (disch := omega) only [h8, pl_eh_at, h, pl_cc, pl_vc, pl_le8, pl_le32, pl_lt64, pl_lt1, pl_lt8, pl_lt32, nI_pos, nI_pos', vp_in_nI, nI_clamp, nI_1, nI_leI, nI_ltI, nI_eq, forall_eq, true_implies, forall_const, not_true_eq_false, not_false_eq_true, false_implies, and_true, true_and, implies_true, and_self, eq_self]
      exact k
theorem px_eh {post : SX → Prop} {x : Int32} (hn : nr ≤ 8) (hp : post (nI nc, nI nr, nI nl, nI nt, nI ck, nI bg, ph, xs, xp, xq, xg, xv, xf, xl, xc, pl_eh nr x xh, xw, xz)) : wpX_endHolds post (nI nc, nI nr, nI nl, nI nt, nI ck, nI bg, ph, xs, xp, xq, xg, xv, xf, xl, xc, xh, xw, xz) x := by
  have k := px_ehl hn hp nr 0 (by omega)
  rw [pl_eh_0, nI_0] at k
  exact ⟨nr + 1, k⟩
theorem px_roll {post : SX → Prop} {s : Nat} (hn : nr ≤ 8) (hs : s ≤ 64) (hp : post (nI nc, nI nr, nI nl, nI nt, nI ck, nI bg, ph, xs, xp, xq, xg, xv, upd xf s 4, xl, xc, pl_eh nr (nI s) xh, xw, xz)) : wpX_rollBack post (nI nc, nI nr, nI nl, nI nt, nI ck, nI bg, ph, xs, xp, xq, xg, xv, xf, xl, xc, xh, xw, xz) (nI s) := by
  simp (disch := omega) only [wpX_rollBack, pl_cc, pl_vc, pl_le8, pl_le32, pl_lt64, pl_lt1, pl_lt8, pl_lt32, nI_pos, nI_pos', vp_in_nI, nI_clamp, nI_1, nI_leI, nI_ltI, nI_eq, forall_eq, true_implies, forall_const, not_true_eq_false, not_false_eq_true, false_implies, and_true, true_and, implies_true, and_self, eq_self]
  exact px_eh hn hp
end PLF
end
section
section PLG
variable {nc nr nl nt ck bg : Nat} {S P M : Nat → Nat} {ph xs xp xq xg xv xf xl xc xh xw xz ym yf ys yp yq yl yg yv : Nat → Int32}
theorem pl_dec (n : Nat) : nI (n + 1) + (-1) = nI n := by
  rw [← nI_1, Int32.add_assoc, show (1 : Int32) + (-1) = 0 from rfl, Int32.add_zero]
theorem px_nvs {post : Int32 → Prop} {r p : Nat} (hr : r < 8) (h1 : 1 ≤ p) (hw : ¬ xw (r * 65 + p) = 0) (hp : post (nI p)) : ∀ d, p + d ≤ 64 → (∀ q, p < q → q ≤ p + d → xw (r * 65 + q) = 0) → wX_newestVersion_16 post (nI r) (nI nc) (nI nr) (nI nl) (nI nt) (nI ck) (nI bg) ph xs xp xq xg xv xf xl xc xh xw xz (d + 1) (nI (p + d)) := by
  intro d
  induction d with
  | zero =>
    intro hd hz
    have e : ¬ p + 0 < 1 := by omega
    rw [wX_newestVersion_16]
    simp (disch := omega) only [wpX_versionCell, e, Nat.add_zero, hw, pl_cc, pl_vc, pl_le8, pl_le32, pl_lt64, pl_lt1, pl_lt8, pl_lt32, nI_pos, nI_pos', vp_in_nI, nI_clamp, nI_1, nI_leI, nI_ltI, nI_eq, forall_eq, true_implies, forall_const, not_true_eq_false, not_false_eq_true, false_implies, and_true, true_and, implies_true, and_self, eq_self]
    have e' : ¬ p < 1 := by omega
    simp only [e', hp, not_false_eq_true, false_implies, true_implies, and_self]
  | succ d ih =>
    intro hd hz
    have e : ¬ p + (d + 1) < 1 := by omega
    have z := hz (p + (d + 1)) (by omega) (by omega)
    have k := ih (by omega) (fun q a b => hz q a (by omega))
    have y : nI (p + (d + 1)) + (-1) = nI (p + d) := pl_dec (p + d)
    rw [wX_newestVersion_16]
    simp (disch := omega) only [wpX_versionCell, e, z, y, pl_cc, pl_vc, pl_le8, pl_le32, pl_lt64, pl_lt1, pl_lt8, pl_lt32, nI_pos, nI_pos', vp_in_nI, nI_clamp, nI_1, nI_leI, nI_ltI, nI_eq, forall_eq, true_implies, forall_const, not_true_eq_false, not_false_eq_true, false_implies, and_true, true_and, implies_true, and_self, eq_self]
    exact k
theorem px_nvn {post : Int32 → Prop} {r : Nat} (hr : r < 8) (hp : post (-1)) : ∀ d, d ≤ 64 → (∀ q, 1 ≤ q → q ≤ d → xw (r * 65 + q) = 0) → wX_newestVersion_16 post (nI r) (nI nc) (nI nr) (nI nl) (nI nt) (nI ck) (nI bg) ph xs xp xq xg xv xf xl xc xh xw xz (d + 1) (nI d) := by
  intro d
  induction d with
  | zero =>
    intro hd hz
    exact br_t (nI_lt (by decide) (by decide)) hp
  | succ d ih =>
    intro hd hz
    have e : ¬ d + 1 < 1 := by omega
    have z := hz (d + 1) (by omega) (by omega)
    have k := ih (by omega) (fun q a b => hz q a (by omega))
    rw [wX_newestVersion_16]
    simp (disch := omega) only [wpX_versionCell, e, z, pl_dec, pl_cc, pl_vc, pl_le8, pl_le32, pl_lt64, pl_lt1, pl_lt8, pl_lt32, nI_pos, nI_pos', vp_in_nI, nI_clamp, nI_1, nI_leI, nI_ltI, nI_eq, forall_eq, true_implies, forall_const, not_true_eq_false, not_false_eq_true, false_implies, and_true, true_and, implies_true, and_self, eq_self]
    exact k
theorem px_new_s {post : Int32 → Prop} {r p : Nat} {ts : Int32} (hr : r < 8) (h1 : 1 ≤ p) (h2 : p ≤ 64) (hw : ¬ xw (r * 65 + p) = 0) (hA : nI p ≤ ts) (hz : ∀ q, p < q → q ≤ 64 → nI q ≤ ts → xw (r * 65 + q) = 0) (hp : post (nI p)) : wpX_newestVersion post (nI nc, nI nr, nI nl, nI nt, nI ck, nI bg, ph, xs, xp, xq, xg, xv, xf, xl, xc, xh, xw, xz) (nI r) ts := by
  by_cases h : ts ≤ 64
  · have h0 : ¬ ts < 0 := Int32.not_lt.mpr (Int32.le_trans (nI_pos' (by omega)) hA)
    obtain ⟨j, hj, rfl⟩ := nI_of2 (n := 64) (by decide) h0 h
    rw [nI_leI (by omega) (by omega)] at hA
    refine br_t h ⟨j - p + 1, ?_⟩
    have k := px_nvs (nc := nc) (nr := nr) (nl := nl) (nt := nt) (ck := ck) (bg := bg) (ph := ph) (xs := xs) (xp := xp) (xq := xq) (xg := xg) (xv := xv) (xf := xf) (xl := xl) (xc := xc) (xh := xh) (xz := xz) hr h1 hw hp (j - p) (by omega) (fun q a b => hz q a (by omega) (nI_le (by omega) (by omega)))
    rw [show p + (j - p) = j by omega] at k
    exact k
  · refine br_f h ⟨64 - p + 1, ?_⟩
    have h64 : (64 : Int32) ≤ ts := Int32.le_of_lt (Int32.not_le.mp h)
    have k := px_nvs (nc := nc) (nr := nr) (nl := nl) (nt := nt) (ck := ck) (bg := bg) (ph := ph) (xs := xs) (xp := xp) (xq := xq) (xg := xg) (xv := xv) (xf := xf) (xl := xl) (xc := xc) (xh := xh) (xz := xz) hr h1 hw hp (64 - p) (by omega) (fun q a b => hz q a (by omega) (Int32.le_trans (nI_le (b := 64) (by omega) (by decide)) h64))
    rw [show p + (64 - p) = 64 by omega] at k
    exact k
theorem px_new_n {post : Int32 → Prop} {r : Nat} {ts : Int32} (hr : r < 8) (hz : ∀ q, 1 ≤ q → q ≤ 64 → nI q ≤ ts → xw (r * 65 + q) = 0) (hp : post (-1)) : wpX_newestVersion post (nI nc, nI nr, nI nl, nI nt, nI ck, nI bg, ph, xs, xp, xq, xg, xv, xf, xl, xc, xh, xw, xz) (nI r) ts := by
  by_cases h : ts ≤ 64
  · refine br_t h ?_
    by_cases h0 : ts < 0
    · exact ⟨1, br_t (Int32.lt_trans h0 (by decide)) hp⟩
    · obtain ⟨j, hj, rfl⟩ := nI_of2 (n := 64) (by decide) h0 h
      exact ⟨j + 1, px_nvn hr hp j hj (fun q a b => hz q a (by omega) (nI_le b (by omega)))⟩
  · refine br_f h ⟨64 + 1, ?_⟩
    have h64 : (64 : Int32) ≤ ts := Int32.le_of_lt (Int32.not_le.mp h)
    exact px_nvn hr hp 64 (by omega) (fun q a b => hz q a b (Int32.le_trans (nI_le (b := 64) b (by decide)) h64))
theorem px_hpl {post : Int32 → Prop} {c : Nat} (hc : c < 8) (hn : nr ≤ 8) (ht : ∀ r, r < nr → xg (c * 8 + r) = 1 → post 1) (hf : (∀ r, r < nr → ¬ xg (c * 8 + r) = 1) → post 0) : ∀ d i, i + d = nr → (∀ r, r < i → ¬ xg (c * 8 + r) = 1) → wX_hasRowOnlyPut_2 post (nI c) (nI nc) (nI nr) (nI nl) (nI nt) (nI ck) (nI bg) ph xs xp xq xg xv xf xl xc xh xw xz (d + 1) (nI i) := by
  intro d
  induction d with
  | zero =>
    intro i hi hb
    have e : i = nr := by omega
    subst e
    exact br_t (nI_le (Nat.le_refl i) (by omega)) (hf hb)
  | succ d ih =>
    intro i hi hb
    have h8 : ¬ nr ≤ i := by omega
    by_cases z : xg (c * 8 + i) = 1
    · simp (disch := omega) only [wX_hasRowOnlyPut_2, wpX_clientCell, h8, z, pl_cc, pl_vc, pl_le8, pl_le32, pl_lt64, pl_lt1, pl_lt8, pl_lt32, nI_pos, nI_pos', vp_in_nI, nI_clamp, nI_1, nI_leI, nI_ltI, nI_eq, forall_eq, true_implies, forall_const, not_true_eq_false, not_false_eq_true, false_implies, and_true, true_and, implies_true, and_self, eq_self]
      exact ht i (by omega) z
    · have k := ih (i + 1) (by omega) (lt_s hb z)
      rw [wX_hasRowOnlyPut_2]
      simp (disch := omega) only [wpX_clientCell, h8, z, pl_cc, pl_vc, pl_le8, pl_le32, pl_lt64, pl_lt1, pl_lt8, pl_lt32, nI_pos, nI_pos', vp_in_nI, nI_clamp, nI_1, nI_leI, nI_ltI, nI_eq, forall_eq, true_implies, forall_const, not_true_eq_false, not_false_eq_true, false_implies, and_true, true_and, implies_true, and_self, eq_self]
      exact k
theorem px_hp {post : Int32 → Prop} {c : Nat} (hc : c < 8) (hn : nr ≤ 8) (ht : ∀ r, r < nr → xg (c * 8 + r) = 1 → post 1) (hf : (∀ r, r < nr → ¬ xg (c * 8 + r) = 1) → post 0) : wpX_hasRowOnlyPut post (nI nc, nI nr, nI nl, nI nt, nI ck, nI bg, ph, xs, xp, xq, xg, xv, xf, xl, xc, xh, xw, xz) (nI c) := by
  have k := px_hpl (nc := nc) (nl := nl) (nt := nt) (ck := ck) (bg := bg) (ph := ph) (xs := xs) (xp := xp) (xq := xq) (xv := xv) (xf := xf) (xl := xl) (xc := xc) (xh := xh) (xw := xw) (xz := xz) hc hn ht hf nr 0 (by omega) lt_0
  rw [nI_0] at k
  exact ⟨nr + 1, k⟩
theorem px_wcl {post : Int32 → Prop} {c : Nat} (hc : c < 8) (hn : nr ≤ 8) (ht : ∀ r, r < nr → ¬ xg (c * 8 + r) = 0 → ¬ xg (c * 8 + r) = 3 → post 0) (hf : (∀ r, r < nr → xg (c * 8 + r) = 0 ∨ xg (c * 8 + r) = 3) → post 1) : ∀ d i, i + d = nr → (∀ r, r < i → xg (c * 8 + r) = 0 ∨ xg (c * 8 + r) = 3) → wX_isWhollyCommitted_2 post (nI c) (nI nc) (nI nr) (nI nl) (nI nt) (nI ck) (nI bg) ph xs xp xq xg xv xf xl xc xh xw xz (d + 1) (nI i) := by
  intro d
  induction d with
  | zero =>
    intro i hi hb
    have e : i = nr := by omega
    subst e
    exact br_t (nI_le (Nat.le_refl i) (by omega)) (hf hb)
  | succ d ih =>
    intro i hi hb
    have h8 : ¬ nr ≤ i := by omega
    by_cases z : xg (c * 8 + i) = 0
    · have k := ih (i + 1) (by omega) (lt_s hb (Or.inl z))
      rw [wX_isWhollyCommitted_2]
      simp (disch := omega) only [wpX_clientCell, h8, z, pl_cc, pl_vc, pl_le8, pl_le32, pl_lt64, pl_lt1, pl_lt8, pl_lt32, nI_pos, nI_pos', vp_in_nI, nI_clamp, nI_1, nI_leI, nI_ltI, nI_eq, forall_eq, true_implies, forall_const, not_true_eq_false, not_false_eq_true, false_implies, and_true, true_and, implies_true, and_self, eq_self]
      exact k
    · by_cases y : xg (c * 8 + i) = 3
      · have k := ih (i + 1) (by omega) (lt_s hb (Or.inr y))
        rw [wX_isWhollyCommitted_2]
        simp (disch := omega) only [wpX_clientCell, h8, y, pl_nq, pl_cc, pl_vc, pl_le8, pl_le32, pl_lt64, pl_lt1, pl_lt8, pl_lt32, nI_pos, nI_pos', vp_in_nI, nI_clamp, nI_1, nI_leI, nI_ltI, nI_eq, forall_eq, true_implies, forall_const, not_true_eq_false, not_false_eq_true, false_implies, and_true, true_and, implies_true, and_self, eq_self]
        exact k
      · simp (disch := omega) only [wX_isWhollyCommitted_2, wpX_clientCell, h8, z, y, pl_cc, pl_vc, pl_le8, pl_le32, pl_lt64, pl_lt1, pl_lt8, pl_lt32, nI_pos, nI_pos', vp_in_nI, nI_clamp, nI_1, nI_leI, nI_ltI, nI_eq, forall_eq, true_implies, forall_const, not_true_eq_false, not_false_eq_true, false_implies, and_true, true_and, implies_true, and_self, eq_self]
        exact ht i (by omega) z y
theorem px_wc {post : Int32 → Prop} {c : Nat} (hc : c < 8) (hn : nr ≤ 8) (ht : ∀ r, r < nr → ¬ xg (c * 8 + r) = 0 → ¬ xg (c * 8 + r) = 3 → post 0) (hf : (∀ r, r < nr → xg (c * 8 + r) = 0 ∨ xg (c * 8 + r) = 3) → post 1) : wpX_isWhollyCommitted post (nI nc, nI nr, nI nl, nI nt, nI ck, nI bg, ph, xs, xp, xq, xg, xv, xf, xl, xc, xh, xw, xz) (nI c) := by
  have k := px_wcl (nc := nc) (nl := nl) (nt := nt) (ck := ck) (bg := bg) (ph := ph) (xs := xs) (xp := xp) (xq := xq) (xv := xv) (xf := xf) (xl := xl) (xc := xc) (xh := xh) (xw := xw) (xz := xz) hc hn ht hf nr 0 (by omega) lt_0
  rw [nI_0] at k
  exact ⟨nr + 1, k⟩
/-- hasVersion and versionValue once the rows below i are added -/
def pl_AV (c p i : Nat) (xg xv xw xz w z : Nat → Int32) : Prop :=
  (∀ r q, r < 8 → q < 65 → w (r * 65 + q) = if r < i ∧ q = p ∧ xg (c * 8 + r) ≠ 0 then 1 else xw (r * 65 + q)) ∧
  (∀ r q, r < 8 → q < 65 → z (r * 65 + q) = if r < i ∧ q = p ∧ xg (c * 8 + r) ≠ 0 then xv (c * 8 + r) else xz (r * 65 + q))
theorem pl_AV_0 {c p : Nat} : pl_AV c p 0 xg xv xw xz xw xz := ⟨fun r q _ _ => (if_neg (by omega)).symm, fun r q _ _ => (if_neg (by omega)).symm⟩
theorem pl_AV_f {c p i : Nat} {w z : Nat → Int32} (h : pl_AV c p i xg xv xw xz w z) (h0 : xg (c * 8 + i) = 0) : pl_AV c p (i + 1) xg xv xw xz w z := by
  have e : ∀ r q, (r < i + 1 ∧ q = p ∧ xg (c * 8 + r) ≠ 0) ↔ (r < i ∧ q = p ∧ xg (c * 8 + r) ≠ 0) := by
    intro r q
    constructor
    · intro y
      refine ⟨?_, y.2⟩
      by_cases l : r = i
      · exact absurd (by rw [l]; exact h0) y.2.2
      · omega
    · intro y
      exact ⟨by omega, y.2⟩
  refine ⟨fun r q hr hq => ?_, fun r q hr hq => ?_⟩
  · rw [h.1 r q hr hq]
    simp only [e]
  · rw [h.2 r q hr hq]
    simp only [e]
theorem pl_AV_t {c p i : Nat} {w z : Nat → Int32} (hp : p < 65) (hi : i < 8) (h : pl_AV c p i xg xv xw xz w z) (h0 : ¬ xg (c * 8 + i) = 0) : pl_AV c p (i + 1) xg xv xw xz (upd w (i * 65 + p) 1) (upd z (i * 65 + p) (xv (c * 8 + i))) := by
  have e : ∀ r q, r * 65 + q ≠ i * 65 + p → q < 65 → ((r < i + 1 ∧ q = p ∧ xg (c * 8 + r) ≠ 0) ↔ (r < i ∧ q = p ∧ xg (c * 8 + r) ≠ 0)) := by
    intro r q hn hq
    constructor
    · intro y
      exact ⟨by omega, y.2⟩
    · intro y
      exact ⟨by omega, y.2⟩
  refine ⟨fun r q hr hq => ?_, fun r q hr hq => ?_⟩
  · by_cases n : r * 65 + q = i * 65 + p
    · have a : r = i := by omega
      have b : q = p := by omega
      subst a
      subst b
      rw [pl_us]
      exact (if_pos ⟨by omega, rfl, h0⟩).symm
    · rw [pl_un n, h.1 r q hr hq]
      simp only [e r q n hq]
  · by_cases n : r * 65 + q = i * 65 + p
    · have a : r = i := by omega
      have b : q = p := by omega
      subst a
      subst b
      rw [pl_us]
      exact (if_pos ⟨by omega, rfl, h0⟩).symm
    · rw [pl_un n, h.2 r q hr hq]
      simp only [e r q n hq]
theorem pl_vb1 : vp_nar .boolean 1 = 1 := by decide
theorem px_avl {post : SX → Prop} {c p : Nat} (hc : c < 8) (hn : nr ≤ 8) (hpp : p ≤ 64) (hxp : xp c = nI p) (hp : ∀ w z, pl_AV c p nr xg xv xw xz w z → post (nI nc, nI nr, nI nl, nI nt, nI ck, nI bg, ph, xs, xp, xq, xg, xv, xf, xl, xc, xh, w, z)) : ∀ d i w z, i + d = nr → pl_AV c p i xg xv xw xz w z → wX_addVersions_2 post (nI c) (nI nc) (nI nr) (nI nl) (nI nt) (nI ck) (nI bg) (d + 1) (nI i) ph xs xp xq xg xv xf xl xc xh w z := by
  intro d
  induction d with
  | zero =>
    intro i w z hi hA
    have e : i = nr := by omega
    subst e
    exact br_t (nI_le (Nat.le_refl i) (by omega)) (hp w z hA)
  | succ d ih =>
    intro i w z hi hA
    have h8 : ¬ nr ≤ i := by omega
    by_cases y : xg (c * 8 + i) = 0
    · have k := ih (i + 1) w z (by omega) (pl_AV_f hA y)
      rw [wX_addVersions_2]
      simp (disch := omega) only [wpX_clientCell, h8, y, pl_cc, pl_vc, pl_le8, pl_le32, pl_lt64, pl_lt1, pl_lt8, pl_lt32, nI_pos, nI_pos', vp_in_nI, nI_clamp, nI_1, nI_leI, nI_ltI, nI_eq, forall_eq, true_implies, forall_const, not_true_eq_false, not_false_eq_true, false_implies, and_true, true_and, implies_true, and_self, eq_self]
      exact k
    · have k := ih (i + 1) _ _ (by omega) (pl_AV_t (by omega) (by omega) hA y)
      rw [wX_addVersions_2]
      simp (disch := omega) only [wpX_clientCell, wpX_versionCell, h8, y, hxp, pl_vb1, pl_cc, pl_vc, pl_le8, pl_le32, pl_lt64, pl_lt1, pl_lt8, pl_lt32, nI_pos, nI_pos', vp_in_nI, nI_clamp, nI_1, nI_leI, nI_ltI, nI_eq, forall_eq, true_implies, forall_const, not_true_eq_false, not_false_eq_true, false_implies, and_true, true_and, implies_true, and_self, eq_self]
      exact k
theorem px_av {post : SX → Prop} {c p : Nat} (hc : c < 8) (hn : nr ≤ 8) (hpp : p ≤ 64) (hxp : xp c = nI p) (hp : ∀ w z, pl_AV c p nr xg xv xw xz w z → post (nI nc, nI nr, nI nl, nI nt, nI ck, nI bg, ph, xs, xp, xq, xg, xv, xf, xl, xc, xh, w, z)) : wpX_addVersions post (nI nc, nI nr, nI nl, nI nt, nI ck, nI bg, ph, xs, xp, xq, xg, xv, xf, xl, xc, xh, xw, xz) (nI c) := by
  have k := px_avl hc hn hpp hxp hp nr 0 xw xz (by omega) pl_AV_0
  rw [nI_0] at k
  exact ⟨nr + 1, k⟩
end PLG
end
section
section PLH
variable {nc nr nl nt ck bg : Nat} {S P M : Nat → Nat} {ph xs xp xq xg xv xf xl xc xh xw xz ym yf ys yp yq yl yg yv : Nat → Int32}
theorem py_hol {post : Int32 → Prop} {r : Nat} (hr : r < 8) (hs : ∀ t, t < 32 → yf t = 2 → yg (t * 8 + r) = 2 → post (nI t)) (hn : (∀ t, t < 32 → yf t = 2 → ¬ yg (t * 8 + r) = 2) → post (-1)) : ∀ d i, i + d = 32 → (∀ t, t < i → yf t = 2 → ¬ yg (t * 8 + r) = 2) → wY_holding_2 post (nI r) (nI nc) (nI nr) (nI nl) (nI nt) (nI ck) (nI bg) ph ym yf ys yp yq yl yg yv (d + 1) (nI i) := by
  intro d
  induction d with
  | zero =>
    intro i hi hb
    have e : i = 32 := by omega
    subst e
    exact br_t (nI_le (Nat.le_refl 32) (by decide)) (hn hb)
  | succ d ih =>
    intro i hi hb
    have h8 : ¬ 32 ≤ i := by omega
    by_cases a : yf i = 2
    · by_cases b : yg (i * 8 + r) = 2
      · simp (disch := omega) only [wY_holding_2, h8, a, b, pl_cc, pl_vc, pl_le8, pl_le32, pl_lt64, pl_lt1, pl_lt8, pl_lt32, nI_pos, nI_pos', vp_in_nI, nI_clamp, nI_1, nI_leI, nI_ltI, nI_eq, forall_eq, true_implies, forall_const, not_true_eq_false, not_false_eq_true, false_implies, and_true, true_and, implies_true, and_self, eq_self]
        exact hs i (by omega) a b
      · have k := ih (i + 1) (by omega) (lt_s hb (fun _ => b))
        rw [wY_holding_2]
        simp (disch := omega) only [h8, a, b, pl_cc, pl_vc, pl_le8, pl_le32, pl_lt64, pl_lt1, pl_lt8, pl_lt32, nI_pos, nI_pos', vp_in_nI, nI_clamp, nI_1, nI_leI, nI_ltI, nI_eq, forall_eq, true_implies, forall_const, not_true_eq_false, not_false_eq_true, false_implies, and_true, true_and, implies_true, and_self, eq_self]
        exact k
    · have k := ih (i + 1) (by omega) (lt_s hb (fun z => absurd z a))
      rw [wY_holding_2]
      simp (disch := omega) only [h8, a, pl_cc, pl_vc, pl_le8, pl_le32, pl_lt64, pl_lt1, pl_lt8, pl_lt32, nI_pos, nI_pos', vp_in_nI, nI_clamp, nI_1, nI_leI, nI_ltI, nI_eq, forall_eq, true_implies, forall_const, not_true_eq_false, not_false_eq_true, false_implies, and_true, true_and, implies_true, and_self, eq_self]
      exact k
theorem py_ho {post : Int32 → Prop} {r : Nat} (hr : r < 8) (hs : ∀ t, t < 32 → yf t = 2 → yg (t * 8 + r) = 2 → post (nI t)) (hn : (∀ t, t < 32 → yf t = 2 → ¬ yg (t * 8 + r) = 2) → post (-1)) : wpY_holding post (nI nc, nI nr, nI nl, nI nt, nI ck, nI bg, ph, ym, yf, ys, yp, yq, yl, yg, yv) (nI r) := by
  have k := py_hol (nc := nc) (nr := nr) (nl := nl) (nt := nt) (ck := ck) (bg := bg) (ph := ph) (ym := ym) (ys := ys) (yp := yp) (yq := yq) (yl := yl) (yv := yv) hr hs hn 32 0 rfl lt_0
  rw [nI_0] at k
  exact ⟨33, k⟩
def pl_Q (ts : Int32) (r : Nat) (P : Nat → Nat) (yf yg : Nat → Int32) (t : Nat) : Prop := yf t = 3 ∧ ¬ yg (t * 8 + r) = 0 ∧ ¬ ts < nI (P t)
def pl_I (ts : Int32) (r : Nat) (P : Nat → Nat) (yf yg : Nat → Int32) (i : Nat) (b : Int32) : Prop :=
  (b = -1 ∧ ∀ t, t < i → ¬ pl_Q ts r P yf yg t) ∨ ∃ t, t < i ∧ b = nI t ∧ pl_Q ts r P yf yg t ∧ ∀ t', t' < i → pl_Q ts r P yf yg t' → P t' ≤ P t
theorem pl_I_n {ts : Int32} {r i : Nat} {b : Int32} (h : pl_I ts r P yf yg i b) (q : ¬ pl_Q ts r P yf yg i) : pl_I ts r P yf yg (i + 1) b := by
  rcases h with ⟨h1, h2⟩ | ⟨t, h1, h2, h3, h4⟩
  · exact Or.inl ⟨h1, lt_s h2 q⟩
  · exact Or.inr ⟨t, by omega, h2, h3, lt_s h4 (fun z => absurd z q)⟩
theorem py_nwl {post : Int32 → Prop} {r : Nat} {ts : Int32} (hr : r < 8) (hP : ∀ t, t < 32 → yp t = nI (P t) ∧ P t ≤ 64) (hp : ∀ b, pl_I ts r P yf yg 32 b → post b) : ∀ d i b, i + d = 32 → pl_I ts r P yf yg i b → wY_newest_5 post (nI r) ts (nI nc) (nI nr) (nI nl) (nI nt) (nI ck) (nI bg) ph ym yf ys yp yq yl yg yv (d + 1) b (nI i) := by
  intro d
  induction d with
  | zero =>
    intro i b hi hb
    have e : i = 32 := by omega
    subst e
    exact br_t (nI_le (Nat.le_refl 32) (by decide)) (hp b hb)
  | succ d ih =>
    intro i b hi hb
    have h8 : ¬ 32 ≤ i := by omega
    obtain ⟨ep, lp⟩ := hP i (by omega)
    by_cases a : yf i = 3
    · by_cases g : yg (i * 8 + r) = 0
      · have k := ih (i + 1) b (by omega) (pl_I_n hb (fun z => z.2.1 g))
        rw [wY_newest_5]
        simp (disch := omega) only [h8, a, g, pl_cc, pl_vc, pl_le8, pl_le32, pl_lt64, pl_lt1, pl_lt8, pl_lt32, nI_pos, nI_pos', vp_in_nI, nI_clamp, nI_1, nI_leI, nI_ltI, nI_eq, forall_eq, true_implies, forall_const, not_true_eq_false, not_false_eq_true, false_implies, and_true, true_and, implies_true, and_self, eq_self]
        exact k
      · by_cases l : ts < nI (P i)
        · have k := ih (i + 1) b (by omega) (pl_I_n hb (fun z => z.2.2 l))
          rw [wY_newest_5]
          simp (disch := omega) only [h8, a, g, ep, l, pl_cc, pl_vc, pl_le8, pl_le32, pl_lt64, pl_lt1, pl_lt8, pl_lt32, nI_pos, nI_pos', vp_in_nI, nI_clamp, nI_1, nI_leI, nI_ltI, nI_eq, forall_eq, true_implies, forall_const, not_true_eq_false, not_false_eq_true, false_implies, and_true, true_and, implies_true, and_self, eq_self]
          exact k
        · have q : pl_Q ts r P yf yg i := ⟨a, g, l⟩
          rcases hb with ⟨h1, h2⟩ | ⟨t, h1, h2, h3, h4⟩
          · subst h1
            have k := ih (i + 1) (nI i) (by omega) (Or.inr ⟨i, by omega, rfl, q, lt_s (fun t' l' z => absurd z (h2 t' l')) (fun _ => Nat.le_refl _)⟩)
            rw [wY_newest_5]
            simp (disch := omega) only [h8, a, g, ep, l, pl_m1, pl_cc, pl_vc, pl_le8, pl_le32, pl_lt64, pl_lt1, pl_lt8, pl_lt32, nI_pos, nI_pos', vp_in_nI, nI_clamp, nI_1, nI_leI, nI_ltI, nI_eq, forall_eq, true_implies, forall_const, not_true_eq_false, not_false_eq_true, false_implies, and_true, true_and, implies_true, and_self, eq_self]
            exact k
          · subst h2
            obtain ⟨et, lt⟩ := hP t (by omega)
            by_cases m : P i ≤ P t
            · have k := ih (i + 1) (nI t) (by omega) (Or.inr ⟨t, by omega, rfl, h3, lt_s h4 (fun _ => m)⟩)
              rw [wY_newest_5]
              simp (disch := omega) only [h8, a, g, ep, et, l, m, pl_cc, pl_vc, pl_le8, pl_le32, pl_lt64, pl_lt1, pl_lt8, pl_lt32, nI_pos, nI_pos', vp_in_nI, nI_clamp, nI_1, nI_leI, nI_ltI, nI_eq, forall_eq, true_implies, forall_const, not_true_eq_false, not_false_eq_true, false_implies, and_true, true_and, implies_true, and_self, eq_self]
              exact k
            · have k := ih (i + 1) (nI i) (by omega) (Or.inr ⟨i, by omega, rfl, q, lt_s (fun t' l' z => Nat.le_trans (h4 t' l' z) (by omega)) (fun _ => Nat.le_refl _)⟩)
              rw [wY_newest_5]
              simp (disch := omega) only [h8, a, g, ep, et, l, m, pl_cc, pl_vc, pl_le8, pl_le32, pl_lt64, pl_lt1, pl_lt8, pl_lt32, nI_pos, nI_pos', vp_in_nI, nI_clamp, nI_1, nI_leI, nI_ltI, nI_eq, forall_eq, true_implies, forall_const, not_true_eq_false, not_false_eq_true, false_implies, and_true, true_and, implies_true, and_self, eq_self]
              exact k
    · have k := ih (i + 1) b (by omega) (pl_I_n hb (fun z => a z.1))
      rw [wY_newest_5]
      simp (disch := omega) only [h8, a, pl_cc, pl_vc, pl_le8, pl_le32, pl_lt64, pl_lt1, pl_lt8, pl_lt32, nI_pos, nI_pos', vp_in_nI, nI_clamp, nI_1, nI_leI, nI_ltI, nI_eq, forall_eq, true_implies, forall_const, not_true_eq_false, not_false_eq_true, false_implies, and_true, true_and, implies_true, and_self, eq_self]
      exact k
theorem py_nw {post : Int32 → Prop} {r : Nat} {ts : Int32} (hr : r < 8) (hP : ∀ t, t < 32 → yp t = nI (P t) ∧ P t ≤ 64) (hp : ∀ b, pl_I ts r P yf yg 32 b → post b) : wpY_newest post (nI nc, nI nr, nI nl, nI nt, nI ck, nI bg, ph, ym, yf, ys, yp, yq, yl, yg, yv) (nI r) ts := by
  have k := py_nwl (nc := nc) (nr := nr) (nl := nl) (nt := nt) (ck := ck) (bg := bg) (ph := ph) (ym := ym) (ys := ys) (yq := yq) (yl := yl) (yv := yv) hr hP hp 32 0 (-1) rfl (Or.inl ⟨rfl, lt_0⟩)
  rw [nI_0] at k
  exact ⟨33, k⟩
/-! the newest version, both sides -/
theorem pl_nwb (H : pl_R nc nr nl nt ck bg S P M ph xs xp xq xg xv xf xl xc xh xw xz ym yf ys yp yq yl yg yv) {r : Nat} (hr : r < 8) (tx ty : Int32) (A : Nat → Prop) (hX : ∀ q, q ≤ 64 → (nI q ≤ tx ↔ A q)) (hY : ∀ q, q ≤ 64 → (¬ ty < nI q ↔ A q)) :
    (∃ t, t < bg ∧ yf t = 3 ∧ 1 ≤ P t ∧ P t ≤ 64 ∧ yp t = nI (P t) ∧ xz (r * 65 + P t) = yv (t * 8 + r) ∧
      (∀ post : Int32 → Prop, post (nI (P t)) → wpX_newestVersion post (nI nc, nI nr, nI nl, nI nt, nI ck, nI bg, ph, xs, xp, xq, xg, xv, xf, xl, xc, xh, xw, xz) (nI r) tx) ∧ (∀ post : Int32 → Prop, post (nI t) → wpY_newest post (nI nc, nI nr, nI nl, nI nt, nI ck, nI bg, ph, ym, yf, ys, yp, yq, yl, yg, yv) (nI r) ty)) ∨
    ((∀ post : Int32 → Prop, post (-1) → wpX_newestVersion post (nI nc, nI nr, nI nl, nI nt, nI ck, nI bg, ph, xs, xp, xq, xg, xv, xf, xl, xc, xh, xw, xz) (nI r) tx) ∧ (∀ post : Int32 → Prop, post (-1) → wpY_newest post (nI nc, nI nr, nI nl, nI nt, nI ck, nI bg, ph, ym, yf, ys, yp, yq, yl, yg, yv) (nI r) ty)) := by
  have hb := pl_b H
  have hTP : ∀ t, t < 32 → yp t = nI (P t) ∧ P t ≤ 64 := fun t ht => by
    have := H.2.2.2.1 t ht
    exact ⟨this.1, by omega⟩
  rcases pl_new H hr A with ⟨t, h1, h2, h3, h4, h5, h6, h7, h8, h9, h10, h11⟩ | ⟨h1, h2⟩
  · refine Or.inl ⟨t, h1, h2, h5, h6, h7, h9, ?_, ?_⟩
    · intro post hp
      exact px_new_s hr h5 h6 h8 ((hX _ h6).mpr h4) (fun q a b d => h10 q a b ((hX q b).mp d)) hp
    · intro post hp
      refine py_nw hr hTP ?_
      intro b hI
      have q0 : pl_Q ty r P yf yg t := ⟨h2, h3, (hY _ h6).mpr h4⟩
      rcases hI with ⟨e, z⟩ | ⟨t', l, e, q, z⟩
      · exact absurd q0 (z t (by omega))
      · by_cases n : t' = t
        · rw [e, n]; exact hp
        · have a := z t (by omega) q0
          have b := h11 t' l q.1 q.2.1 ((hY _ (hTP t' l).2).mp q.2.2) n
          omega
  · refine Or.inr ⟨fun post hp => px_new_n hr (fun q a b d => h1 q a b ((hX q b).mp d)) hp, fun post hp => ?_⟩
    refine py_nw hr hTP ?_
    intro b hI
    rcases hI with ⟨e, z⟩ | ⟨t', l, e, q, z⟩
    · rw [e]; exact hp
    · exact absurd ((hY _ (hTP t' l).2).mp q.2.2) (h2 t' l q.1 q.2.1)
/-! the reference's own loops -/
theorem py_stl {post : Int32 → SY → Prop} {c t : Nat} (hc : c < 8) (ht : t < 32) (h1 : ∀ r, r < 8 → yg (t * 8 + r) = 1 → post (-4) (nI nc, nI nr, nI nl, nI nt, nI ck, nI bg, ph, ym, yf, ys, yp, yq, yl, yg, yv)) (h0 : (∀ r, r < 8 → ¬ yg (t * 8 + r) = 1) → post (nI (ck + 1)) (nI nc, nI nr, nI nl, nI nt, nI (ck + 1), nI bg, upd ph c 3, ym, yf, ys, upd yp t (nI (ck + 1)), yq, yl, yg, yv)) : ∀ d i, i + d = 8 → (∀ r, r < i → ¬ yg (t * 8 + r) = 1) → wY_stamp_45 post (nI c) (nI t) (nI nc) (nI nr) (nI nl) (nI nt) (nI ck) (nI bg) ph ym yf ys yp yq yl yg yv (d + 1) (nI i) := by
  intro d
  induction d with
  | zero =>
    intro i hi hb
    have e : i = 8 := by omega
    subst e
    have k := h0 hb
    have h8 : 8 ≤ 8 := Nat.le_refl 8
    rw [wY_stamp_45]
    simp (disch := omega) only [h8, pl_cc, pl_vc, pl_le8, pl_le32, pl_lt64, pl_lt1, pl_lt8, pl_lt32, nI_pos, nI_pos', vp_in_nI, nI_clamp, nI_1, nI_leI, nI_ltI, nI_eq, forall_eq, true_implies, forall_const, not_true_eq_false, not_false_eq_true, false_implies, and_true, true_and, implies_true, and_self, eq_self]
    exact k
  | succ d ih =>
    intro i hi hb
    have h8 : ¬ 8 ≤ i := by omega
    by_cases z : yg (t * 8 + i) = 1
    · simp (disch := omega) only [wY_stamp_45, h8, z, pl_cc, pl_vc, pl_le8, pl_le32, pl_lt64, pl_lt1, pl_lt8, pl_lt32, nI_pos, nI_pos', vp_in_nI, nI_clamp, nI_1, nI_leI, nI_ltI, nI_eq, forall_eq, true_implies, forall_const, not_true_eq_false, not_false_eq_true, false_implies, and_true, true_and, implies_true, and_self, eq_self]
      exact h1 i (by omega) z
    · have k := ih (i + 1) (by omega) (lt_s hb z)
      rw [wY_stamp_45]
      simp (disch := omega) only [h8, z, pl_cc, pl_vc, pl_le8, pl_le32, pl_lt64, pl_lt1, pl_lt8, pl_lt32, nI_pos, nI_pos', vp_in_nI, nI_clamp, nI_1, nI_leI, nI_ltI, nI_eq, forall_eq, true_implies, forall_const, not_true_eq_false, not_false_eq_true, false_implies, and_true, true_and, implies_true, and_self, eq_self]
      exact k
theorem py_st {post : Int32 → SY → Prop} {c t : Nat} (hc : c < 8) (ht : t < 32) (h1 : ∀ r, r < 8 → yg (t * 8 + r) = 1 → post (-4) (nI nc, nI nr, nI nl, nI nt, nI ck, nI bg, ph, ym, yf, ys, yp, yq, yl, yg, yv)) (h0 : (∀ r, r < 8 → ¬ yg (t * 8 + r) = 1) → post (nI (ck + 1)) (nI nc, nI nr, nI nl, nI nt, nI (ck + 1), nI bg, upd ph c 3, ym, yf, ys, upd yp t (nI (ck + 1)), yq, yl, yg, yv)) : ∃ n, wY_stamp_45 post (nI c) (nI t) (nI nc) (nI nr) (nI nl) (nI nt) (nI ck) (nI bg) ph ym yf ys yp yq yl yg yv n 0 := by
  have k := py_stl hc ht h1 h0 8 0 rfl lt_0
  rw [nI_0] at k
  exact ⟨9, k⟩
theorem py_cml {post : Int32 → SY → Prop} {c t : Nat} (hc : c < 8) (ht : t < 32) (h1 : ∀ r, r < 8 → ¬ yg (t * 8 + r) = 0 → ¬ yg (t * 8 + r) = 3 → post 0 (nI nc, nI nr, nI nl, nI nt, nI ck, nI bg, ph, ym, yf, ys, yp, yq, yl, yg, yv)) (h0 : (∀ r, r < 8 → yg (t * 8 + r) = 0 ∨ yg (t * 8 + r) = 3) → post 0 (nI nc, nI nr, nI nl, nI nt, nI ck, nI bg, upd ph c 0, ym, yf, ys, yp, yq, yl, yg, yv)) : ∀ d i b, i + d = 8 → ((b = 1 ∧ ∀ r, r < i → yg (t * 8 + r) = 0 ∨ yg (t * 8 + r) = 3) ∨ (b = 0 ∧ ∃ r, r < 8 ∧ ¬ yg (t * 8 + r) = 0 ∧ ¬ yg (t * 8 + r) = 3)) → wY_commit_170 post (nI c) (nI t) (nI nc) (nI nr) (nI nl) (nI nt) (nI ck) (nI bg) ph ym yf ys yp yq yl yg yv (d + 1) b (nI i) := by
  intro d
  induction d with
  | zero =>
    intro i b hi hb
    have e : i = 8 := by omega
    subst e
    have h8 : 8 ≤ 8 := Nat.le_refl 8
    rcases hb with ⟨e, hb⟩ | ⟨e, r, l, a, b'⟩
    · subst e
      have k := h0 hb
      rw [wY_commit_170]
      simp (disch := omega) only [h8, pl_nq, pl_cc, pl_vc, pl_le8, pl_le32, pl_lt64, pl_lt1, pl_lt8, pl_lt32, nI_pos, nI_pos', vp_in_nI, nI_clamp, nI_1, nI_leI, nI_ltI, nI_eq, forall_eq, true_implies, forall_const, not_true_eq_false, not_false_eq_true, false_implies, and_true, true_and, implies_true, and_self, eq_self]
      exact k
    · subst e
      have k := h1 r l a b'
      rw [wY_commit_170]
      simp (disch := omega) only [h8, pl_cc, pl_vc, pl_le8, pl_le32, pl_lt64, pl_lt1, pl_lt8, pl_lt32, nI_pos, nI_pos', vp_in_nI, nI_clamp, nI_1, nI_leI, nI_ltI, nI_eq, forall_eq, true_implies, forall_const, not_true_eq_false, not_false_eq_true, false_implies, and_true, true_and, implies_true, and_self, eq_self]
      exact k
  | succ d ih =>
    intro i b hi hb
    have h8 : ¬ 8 ≤ i := by omega
    by_cases z : yg (t * 8 + i) = 0
    · have k := ih (i + 1) b (by omega) (hb.imp (fun y => ⟨y.1, lt_s y.2 (Or.inl z)⟩) id)
      rw [wY_commit_170]
      simp (disch := omega) only [h8, z, pl_cc, pl_vc, pl_le8, pl_le32, pl_lt64, pl_lt1, pl_lt8, pl_lt32, nI_pos, nI_pos', vp_in_nI, nI_clamp, nI_1, nI_leI, nI_ltI, nI_eq, forall_eq, true_implies, forall_const, not_true_eq_false, not_false_eq_true, false_implies, and_true, true_and, implies_true, and_self, eq_self]
      exact k
    · by_cases y : yg (t * 8 + i) = 3
      · have k := ih (i + 1) b (by omega) (hb.imp (fun w => ⟨w.1, lt_s w.2 (Or.inr y)⟩) id)
        rw [wY_commit_170]
        simp (disch := omega) only [h8, y, pl_nq, pl_cc, pl_vc, pl_le8, pl_le32, pl_lt64, pl_lt1, pl_lt8, pl_lt32, nI_pos, nI_pos', vp_in_nI, nI_clamp, nI_1, nI_leI, nI_ltI, nI_eq, forall_eq, true_implies, forall_const, not_true_eq_false, not_false_eq_true, false_implies, and_true, true_and, implies_true, and_self, eq_self]
        exact k
      · have k := ih (i + 1) 0 (by omega) (Or.inr ⟨rfl, i, by omega, z, y⟩)
        rw [wY_commit_170]
        simp (disch := omega) only [h8, z, y, pl_cc, pl_vc, pl_le8, pl_le32, pl_lt64, pl_lt1, pl_lt8, pl_lt32, nI_pos, nI_pos', vp_in_nI, nI_clamp, nI_1, nI_leI, nI_ltI, nI_eq, forall_eq, true_implies, forall_const, not_true_eq_false, not_false_eq_true, false_implies, and_true, true_and, implies_true, and_self, eq_self]
        exact k
theorem py_cm {post : Int32 → SY → Prop} {c t : Nat} (hc : c < 8) (ht : t < 32) (h1 : ∀ r, r < 8 → ¬ yg (t * 8 + r) = 0 → ¬ yg (t * 8 + r) = 3 → post 0 (nI nc, nI nr, nI nl, nI nt, nI ck, nI bg, ph, ym, yf, ys, yp, yq, yl, yg, yv)) (h0 : (∀ r, r < 8 → yg (t * 8 + r) = 0 ∨ yg (t * 8 + r) = 3) → post 0 (nI nc, nI nr, nI nl, nI nt, nI ck, nI bg, upd ph c 0, ym, yf, ys, yp, yq, yl, yg, yv)) : ∃ n, wY_commit_170 post (nI c) (nI t) (nI nc) (nI nr) (nI nl) (nI nt) (nI ck) (nI bg) ph ym yf ys yp yq yl yg yv n 1 0 := by
  have k := py_cml hc ht h1 h0 8 0 1 rfl (Or.inl ⟨rfl, lt_0⟩)
  rw [nI_0] at k
  exact ⟨9, k⟩
theorem py_lll {post : Int32 → Prop} {s : Int32} (hs : ∀ t, t < 32 → yf t = 2 → ys t = s → post (yl t)) (hn : (∀ t, t < 32 → yf t = 2 → ¬ ys t = s) → post (-1)) : ∀ d i, i + d = 32 → (∀ t, t < i → yf t = 2 → ¬ ys t = s) → wY_leaseLeft_2 post s (nI nc) (nI nr) (nI nl) (nI nt) (nI ck) (nI bg) ph ym yf ys yp yq yl yg yv (d + 1) (nI i) := by
  intro d
  induction d with
  | zero =>
    intro i hi hb
    have e : i = 32 := by omega
    subst e
    exact br_t (nI_le (Nat.le_refl 32) (by decide)) (hn hb)
  | succ d ih =>
    intro i hi hb
    have h8 : ¬ 32 ≤ i := by omega
    by_cases a : yf i = 2
    · by_cases b : ys i = s
      · simp (disch := omega) only [wY_leaseLeft_2, h8, a, b, pl_cc, pl_vc, pl_le8, pl_le32, pl_lt64, pl_lt1, pl_lt8, pl_lt32, nI_pos, nI_pos', vp_in_nI, nI_clamp, nI_1, nI_leI, nI_ltI, nI_eq, forall_eq, true_implies, forall_const, not_true_eq_false, not_false_eq_true, false_implies, and_true, true_and, implies_true, and_self, eq_self]
        exact hs i (by omega) a b
      · have k := ih (i + 1) (by omega) (lt_s hb (fun _ => b))
        rw [wY_leaseLeft_2]
        simp (disch := omega) only [h8, a, b, pl_cc, pl_vc, pl_le8, pl_le32, pl_lt64, pl_lt1, pl_lt8, pl_lt32, nI_pos, nI_pos', vp_in_nI, nI_clamp, nI_1, nI_leI, nI_ltI, nI_eq, forall_eq, true_implies, forall_const, not_true_eq_false, not_false_eq_true, false_implies, and_true, true_and, implies_true, and_self, eq_self]
        exact k
    · have k := ih (i + 1) (by omega) (lt_s hb (fun z => absurd z a))
      rw [wY_leaseLeft_2]
      simp (disch := omega) only [h8, a, pl_cc, pl_vc, pl_le8, pl_le32, pl_lt64, pl_lt1, pl_lt8, pl_lt32, nI_pos, nI_pos', vp_in_nI, nI_clamp, nI_1, nI_leI, nI_ltI, nI_eq, forall_eq, true_implies, forall_const, not_true_eq_false, not_false_eq_true, false_implies, and_true, true_and, implies_true, and_self, eq_self]
      exact k
theorem py_ll {post : Int32 → Prop} {s : Int32} (hs : ∀ t, t < 32 → yf t = 2 → ys t = s → post (yl t)) (hn : (∀ t, t < 32 → yf t = 2 → ¬ ys t = s) → post (-1)) : wpY_leaseLeft post (nI nc, nI nr, nI nl, nI nt, nI ck, nI bg, ph, ym, yf, ys, yp, yq, yl, yg, yv) s := by
  have k := py_lll (nc := nc) (nr := nr) (nl := nl) (nt := nt) (ck := ck) (bg := bg) (ph := ph) (ym := ym) (yp := yp) (yq := yq) (yg := yg) (yv := yv) hs hn 32 0 rfl lt_0
  rw [nI_0] at k
  exact ⟨33, k⟩
theorem py_ftl {post : Int32 → Prop} {s : Int32} (h2 : ∀ t, t < 32 → yf t = 2 → ys t = s → post 0) (h3 : ∀ t, t < 32 → yf t = 3 → ys t = s → post (yp t)) (hn : (∀ t, t < 32 → yf t = 2 ∨ yf t = 3 → ¬ ys t = s) → post (-1)) : ∀ d i, i + d = 32 → (∀ t, t < i → yf t = 2 ∨ yf t = 3 → ¬ ys t = s) → wY_fate_2 post s (nI nc) (nI nr) (nI nl) (nI nt) (nI ck) (nI bg) ph ym yf ys yp yq yl yg yv (d + 1) (nI i) := by
  intro d
  induction d with
  | zero =>
    intro i hi hb
    have e : i = 32 := by omega
    subst e
    exact br_t (nI_le (Nat.le_refl 32) (by decide)) (hn hb)
  | succ d ih =>
    intro i hi hb
    have h8 : ¬ 32 ≤ i := by omega
    by_cases b : ys i = s
    · by_cases a : yf i = 2
      · rw [wY_fate_2]
        simp (disch := omega) only [wY_fate_35, h8, a, b, pl_nq, pl_cc, pl_vc, pl_le8, pl_le32, pl_lt64, pl_lt1, pl_lt8, pl_lt32, nI_pos, nI_pos', vp_in_nI, nI_clamp, nI_1, nI_leI, nI_ltI, nI_eq, forall_eq, true_implies, forall_const, not_true_eq_false, not_false_eq_true, false_implies, and_true, true_and, implies_true, and_self, eq_self]
        exact h2 i (by omega) a b
      · by_cases a' : yf i = 3
        · rw [wY_fate_2]
          simp (disch := omega) only [wY_fate_35, h8, a', b, pl_nq, pl_cc, pl_vc, pl_le8, pl_le32, pl_lt64, pl_lt1, pl_lt8, pl_lt32, nI_pos, nI_pos', vp_in_nI, nI_clamp, nI_1, nI_leI, nI_ltI, nI_eq, forall_eq, true_implies, forall_const, not_true_eq_false, not_false_eq_true, false_implies, and_true, true_and, implies_true, and_self, eq_self]
          exact h3 i (by omega) a' b
        · have k := ih (i + 1) (by omega) (lt_s hb (fun z => z.elim (fun y => absurd y a) (fun y => absurd y a')))
          rw [wY_fate_2]
          simp (disch := omega) only [wY_fate_35, h8, a, a', pl_cc, pl_vc, pl_le8, pl_le32, pl_lt64, pl_lt1, pl_lt8, pl_lt32, nI_pos, nI_pos', vp_in_nI, nI_clamp, nI_1, nI_leI, nI_ltI, nI_eq, forall_eq, true_implies, forall_const, not_true_eq_false, not_false_eq_true, false_implies, and_true, true_and, implies_true, and_self, eq_self]
          exact k
    · have k := ih (i + 1) (by omega) (lt_s hb (fun _ => b))
      by_cases a : yf i = 2
      · rw [wY_fate_2]
        simp (disch := omega) only [wY_fate_35, h8, a, b, pl_nq, pl_cc, pl_vc, pl_le8, pl_le32, pl_lt64, pl_lt1, pl_lt8, pl_lt32, nI_pos, nI_pos', vp_in_nI, nI_clamp, nI_1, nI_leI, nI_ltI, nI_eq, forall_eq, true_implies, forall_const, not_true_eq_false, not_false_eq_true, false_implies, and_true, true_and, implies_true, and_self, eq_self]
        exact k
      · by_cases a' : yf i = 3
        · rw [wY_fate_2]
          simp (disch := omega) only [wY_fate_35, h8, a', b, pl_nq, pl_cc, pl_vc, pl_le8, pl_le32, pl_lt64, pl_lt1, pl_lt8, pl_lt32, nI_pos, nI_pos', vp_in_nI, nI_clamp, nI_1, nI_leI, nI_ltI, nI_eq, forall_eq, true_implies, forall_const, not_true_eq_false, not_false_eq_true, false_implies, and_true, true_and, implies_true, and_self, eq_self]
          exact k
        · rw [wY_fate_2]
          simp (disch := omega) only [wY_fate_35, h8, a, a', pl_cc, pl_vc, pl_le8, pl_le32, pl_lt64, pl_lt1, pl_lt8, pl_lt32, nI_pos, nI_pos', vp_in_nI, nI_clamp, nI_1, nI_leI, nI_ltI, nI_eq, forall_eq, true_implies, forall_const, not_true_eq_false, not_false_eq_true, false_implies, and_true, true_and, implies_true, and_self, eq_self]
          exact k
theorem py_ft {post : Int32 → Prop} {s : Int32} (h2 : ∀ t, t < 32 → yf t = 2 → ys t = s → post 0) (h3 : ∀ t, t < 32 → yf t = 3 → ys t = s → post (yp t)) (hn : (∀ t, t < 32 → yf t = 2 ∨ yf t = 3 → ¬ ys t = s) → post (-1)) : wpY_fate post (nI nc, nI nr, nI nl, nI nt, nI ck, nI bg, ph, ym, yf, ys, yp, yq, yl, yg, yv) s := by
  have k := py_ftl (nc := nc) (nr := nr) (nl := nl) (nt := nt) (ck := ck) (bg := bg) (ph := ph) (ym := ym) (yq := yq) (yl := yl) (yg := yg) (yv := yv) h2 h3 hn 32 0 rfl lt_0
  rw [nI_0] at k
  exact ⟨33, k⟩
/-! tick's loops -/
theorem py_tkl {post : Int32 → SY → Prop} {n : Int32} (hp : post 0 (nI nc, nI nr, nI nl, nI nt, nI ck, nI bg, ph, ym, yf, ys, yp, yq, pl_yt n yf yl 32, yg, yv)) : ∀ d i, i + d = 32 → wY_tick_10 post n (nI nc) (nI nr) (nI nl) (nI nt) (nI ck) (nI bg) (d + 1) (nI i) ph ym yf ys yp yq (pl_yt n yf yl i) yg yv := by
  intro d
  induction d with
  | zero =>
    intro i hi
    have e : i = 32 := by omega
    subst e
    exact br_t (nI_le (Nat.le_refl 32) (by decide)) hp
  | succ d ih =>
    intro i hi
    have h8 : ¬ 32 ≤ i := by omega
    have k := ih (i + 1) (by omega)
    rw [pl_yt_s] at k
    by_cases a : yf i = 2
    · rw [if_pos a] at k
      by_cases b : n < yl i
      · have e : pl_lz n (yl i) = yl i - n := if_neg (Int32.not_le.mpr b)
        rw [e] at k
        rw [wY_tick_10]
        simp (disch := omega) only [h8, a, b, pl_yt_i, pl_cc, pl_vc, pl_le8, pl_le32, pl_lt64, pl_lt1, pl_lt8, pl_lt32, nI_pos, nI_pos', vp_in_nI, nI_clamp, nI_1, nI_leI, nI_ltI, nI_eq, forall_eq, true_implies, forall_const, not_true_eq_false, not_false_eq_true, false_implies, and_true, true_and, implies_true, and_self, eq_self]
        exact k
      · have e : pl_lz n (yl i) = 0 := if_pos (Int32.not_lt.mp b)
        rw [e] at k
        rw [wY_tick_10]
        simp (disch := omega) only [h8, a, b, pl_yt_i, pl_cc, pl_vc, pl_le8, pl_le32, pl_lt64, pl_lt1, pl_lt8, pl_lt32, nI_pos, nI_pos', vp_in_nI, nI_clamp, nI_1, nI_leI, nI_ltI, nI_eq, forall_eq, true_implies, forall_const, not_true_eq_false, not_false_eq_true, false_implies, and_true, true_and, implies_true, and_self, eq_self]
        exact k
    · rw [if_neg a] at k
      rw [wY_tick_10]
      simp (disch := omega) only [h8, a, pl_cc, pl_vc, pl_le8, pl_le32, pl_lt64, pl_lt1, pl_lt8, pl_lt32, nI_pos, nI_pos', vp_in_nI, nI_clamp, nI_1, nI_leI, nI_ltI, nI_eq, forall_eq, true_implies, forall_const, not_true_eq_false, not_false_eq_true, false_implies, and_true, true_and, implies_true, and_self, eq_self]
      exact k
theorem px_tkl {post : Int32 → SX → Prop} {n : Int32} (hp : post 0 (nI nc, nI nr, nI nl, nI nt, nI ck, nI bg, ph, xs, xp, xq, xg, xv, xf, pl_xt n xf xl 65, xc, xh, xw, xz)) : ∀ d i, 1 ≤ i → i + d = 65 → wX_tick_10 post n (nI nc) (nI nr) (nI nl) (nI nt) (nI ck) (nI bg) (d + 1) (nI i) ph xs xp xq xg xv xf (pl_xt n xf xl i) xc xh xw xz := by
  intro d
  induction d with
  | zero =>
    intro i h1 hi
    have e : i = 65 := by omega
    subst e
    exact br_t (nI_lt (a := 64) (by decide) (by decide)) hp
  | succ d ih =>
    intro i h1 hi
    have h8 : ¬ 64 < i := by omega
    have k := ih (i + 1) (by omega) (by omega)
    rw [pl_xt_s h1] at k
    by_cases a : xf i = 2
    · rw [if_pos a] at k
      by_cases b : n < xl i
      · have e : pl_lz n (xl i) = xl i - n := if_neg (Int32.not_le.mpr b)
        rw [e] at k
        rw [wX_tick_10]
        simp (disch := omega) only [h8, a, b, pl_xt_i, pl_cc, pl_vc, pl_le8, pl_le32, pl_lt64, pl_lt1, pl_lt8, pl_lt32, nI_pos, nI_pos', vp_in_nI, nI_clamp, nI_1, nI_leI, nI_ltI, nI_eq, forall_eq, true_implies, forall_const, not_true_eq_false, not_false_eq_true, false_implies, and_true, true_and, implies_true, and_self, eq_self]
        exact k
      · have e : pl_lz n (xl i) = 0 := if_pos (Int32.not_lt.mp b)
        rw [e] at k
        rw [wX_tick_10]
        simp (disch := omega) only [h8, a, b, pl_xt_i, pl_cc, pl_vc, pl_le8, pl_le32, pl_lt64, pl_lt1, pl_lt8, pl_lt32, nI_pos, nI_pos', vp_in_nI, nI_clamp, nI_1, nI_leI, nI_ltI, nI_eq, forall_eq, true_implies, forall_const, not_true_eq_false, not_false_eq_true, false_implies, and_true, true_and, implies_true, and_self, eq_self]
        exact k
    · rw [if_neg a] at k
      rw [wX_tick_10]
      simp (disch := omega) only [h8, a, pl_cc, pl_vc, pl_le8, pl_le32, pl_lt64, pl_lt1, pl_lt8, pl_lt32, nI_pos, nI_pos', vp_in_nI, nI_clamp, nI_1, nI_leI, nI_ltI, nI_eq, forall_eq, true_implies, forall_const, not_true_eq_false, not_false_eq_true, false_implies, and_true, true_and, implies_true, and_self, eq_self]
      exact k
end PLH
end
section
section PLI
variable {nc nr nl nt ck bg : Nat} {S P M : Nat → Nat} {ph xs xp xq xg xv xf xl xc xh xw xz ym yf ys yp yq yl yg yv : Nat → Int32}
/-! the constructors -/
theorem pl_u0 {c : Nat} : upd (fun _ => 0) c 0 = fun _ => 0 := by
  funext j
  unfold upd
  split <;> rfl
theorem pl_zr0 {c : Nat} : pl_zr c (fun _ => 0) = fun _ => 0 := by
  funext j
  unfold pl_zr
  split <;> rfl
theorem px_in2 {post : SX → Prop} {f0 f1 f2 f3 f4 f5 : Int32} (hp : ∀ xh, (∀ r, r < 8 → xh r = -1) → post (f0, f1, f2, f3, f4, f5, ph, xs, xp, xq, xg, xv, xf, xl, xc, xh, xw, xz)) : ∀ d i xh, i + d = 8 → (∀ r, r < i → xh r = -1) → wX_init_183 post f0 f1 f2 f3 f4 f5 (d + 1) (nI i) ph xs xp xq xg xv xf xl xc xh xw xz := by
  intro d
  induction d with
  | zero =>
    intro i xh hi h
    have e : i = 8 := by omega
    subst e
    exact br_t (nI_le (Nat.le_refl 8) (by decide)) (hp xh h)
  | succ d ih =>
    intro i xh hi h
    have h8 : ¬ 8 ≤ i := by omega
    have k := ih (i + 1) (upd xh i (-1)) (by omega) (lt_s (fun r l => by rw [pl_un (by omega)]; exact h r l) pl_us)
    rw [wX_init_183]
    simp (disch := omega) only [h8, pl_cc, pl_vc, pl_le8, pl_le32, pl_lt64, pl_lt1, pl_lt8, pl_lt32, nI_pos, nI_pos', vp_in_nI, nI_clamp, nI_1, nI_leI, nI_ltI, nI_eq, forall_eq, true_implies, forall_const, not_true_eq_false, not_false_eq_true, false_implies, and_true, true_and, implies_true, and_self, eq_self]
    exact k
theorem px_in1 {post : SX → Prop} {f0 f1 f2 f3 f4 f5 : Int32} (hp : ∀ xs xp xq xh, (∀ c, c < 8 → xs c = -1 ∧ xp c = -1 ∧ xq c = -1) → (∀ r, r < 8 → xh r = -1) → post (f0, f1, f2, f3, f4, f5, (fun _ => 0), xs, xp, xq, (fun _ => 0), xv, xf, xl, xc, xh, xw, xz)) : ∀ d i xs xp xq, i + d = 8 → (∀ c, c < i → xs c = -1 ∧ xp c = -1 ∧ xq c = -1) → wX_init_161 post (d + 1) (nI i) f0 f1 f2 f3 f4 f5 (fun _ => 0) xs xp xq (fun _ => 0) xv xf xl xc xh xw xz := by
  intro d
  induction d with
  | zero =>
    intro i xs xp xq hi h
    have e : i = 8 := by omega
    subst e
    have k := px_in2 (f0 := f0) (f1 := f1) (f2 := f2) (f3 := f3) (f4 := f4) (f5 := f5) (fun xh' h' => hp xs xp xq xh' h h') 8 0 xh rfl lt_0
    rw [nI_0] at k
    exact br_t (nI_le (Nat.le_refl 8) (by decide)) ⟨9, k⟩
  | succ d ih =>
    intro i xs xp xq hi h
    have k := ih (i + 1) (upd xs i (-1)) (upd xp i (-1)) (upd xq i (-1)) (by omega) (lt_s (fun r l => by rw [pl_un (by omega), pl_un (by omega), pl_un (by omega)]; exact h r l) ⟨pl_us, pl_us, pl_us⟩)
    rw [wX_init_161]
    refine br_f (nI_ge (b := 8) (by omega) (by decide)) (px_idle (by omega) ?_)
    rw [pl_u0, pl_zr0]
    intro y ey
    rw [ey, nI_1]
    exact k
theorem pl_clamp (p : Int32) (a b : Nat) (hab : a ≤ b) (hb : b < 2 ^ 31) : ∃ n, a ≤ n ∧ n ≤ b ∧ (∀ post : Int32 → Prop, post (nI n) → wpX_clamp post p (nI a) (nI b)) ∧ (∀ (post : Int32 → Prop) (u : SY), post (nI n) → wpY_clamp post u p (nI a) (nI b)) := by
  by_cases h1 : nI a ≤ p
  · have h0 : ¬ p < 0 := Int32.not_lt.mpr (Int32.le_trans (nI_pos' (by omega)) h1)
    obtain ⟨j, hj, rfl⟩ := nI_of h0
    by_cases h2 : nI j ≤ nI b
    · exact ⟨j, (nI_leI (by omega) hj).mp h1, (nI_leI hj hb).mp h2, fun post h => br_t h1 (br_t h2 h), fun post u h => br_t h1 (br_t h2 h)⟩
    · exact ⟨b, hab, Nat.le_refl b, fun post h => br_t h1 (br_f h2 h), fun post u h => br_t h1 (br_f h2 h)⟩
  · exact ⟨a, Nat.le_refl a, hab, fun post h => br_f h1 h, fun post u h => br_f h1 h⟩
theorem i_vc0 (k0 : Int32) (k1 : Int32) (k2 : Int32) (k3 : Int32) : wpX_init (fun u => wpY_init (fun v => i_Rel 4 u v) k0 k1 k2 k3) k0 k1 k2 k3 := by
  obtain ⟨n0, a0, b0, x0, y0⟩ := pl_clamp k0 1 8 (by decide) (by decide)
  obtain ⟨n1, a1, b1, x1, y1⟩ := pl_clamp k1 2 8 (by decide) (by decide)
  obtain ⟨n2, a2, b2, x2, y2⟩ := pl_clamp k2 1 100 (by decide) (by decide)
  obtain ⟨n3, a3, b3, x3, y3⟩ := pl_clamp k3 8 32 (by decide) (by decide)
  refine x0 _ (x1 _ (x2 _ (x3 _ ⟨9, ?_⟩)))
  refine px_in1 (f0 := nI n0) (f1 := nI n1) (f2 := nI n2) (f3 := nI n3) (f4 := 0) (f5 := 0) (xh := fun _ => 0) ?_ 8 0 (fun _ => 0) (fun _ => 0) (fun _ => 0) rfl lt_0
  intro xs xp xq xh h1 h2
  refine y0 _ _ (y1 _ _ (y2 _ _ (y3 _ _ ?_)))
  exact pl_mk (pl_start ⟨a0, b0⟩ ⟨a1, b1⟩ ⟨a2, b2⟩ ⟨a3, b3⟩ (fun _ _ => rfl) (fun c h => (h1 c h).1) (fun c h => (h1 c h).2.1) (fun c h => (h1 c h).2.2) (fun _ _ => rfl) h2 _ _ _ _ _ _ _ _ _)
/-! the methods without a loop -/
theorem i_vc_begin {k : Nat} {u : SX} {v : SY} (I : i_Rel k u v) (hk : k + 4 ≤ 2052) (v1 : Int32) : wpX_begin (fun r u' => wpY_begin (fun r' v' => r' = r ∧ i_Rel (k + 4) u' v') v v1) u v1 := by
  obtain ⟨nc, nr, nl, nt, ck, bg, S, P, M, ph, xs, xp, xq, xg, xv, xf, xl, xc, xh, xw, xz, ym, yf, ys, yp, yq, yl, yg, yv, rfl, rfl, H⟩ := I
  have hb := pl_b H
  rcases pl_ix v1 (n := nc) (by omega) with h | ⟨h, h', h''⟩ | ⟨c, hc, rfl⟩
  · simp (disch := omega) only [wpX_begin, wpX_isClient, wpY_begin, wpY_badClient, h, pl_nq, pl_cc, pl_vc, pl_le8, pl_le32, pl_lt64, pl_lt1, pl_lt8, pl_lt32, nI_pos, nI_pos', vp_in_nI, nI_clamp, nI_1, nI_leI, nI_ltI, nI_eq, forall_eq, true_implies, forall_const, not_true_eq_false, not_false_eq_true, false_implies, and_true, true_and, implies_true, and_self, eq_self]
    exact pl_mk H
  · simp (disch := omega) only [wpX_begin, wpX_isClient, wpY_begin, wpY_badClient, h, h', h'', pl_nq, pl_cc, pl_vc, pl_le8, pl_le32, pl_lt64, pl_lt1, pl_lt8, pl_lt32, nI_pos, nI_pos', vp_in_nI, nI_clamp, nI_1, nI_leI, nI_ltI, nI_eq, forall_eq, true_implies, forall_const, not_true_eq_false, not_false_eq_true, false_implies, and_true, true_and, implies_true, and_self, eq_self]
    exact pl_mk H
  · have hc' : ¬ nc ≤ c := by omega
    rcases pl_cl H (c := c) (by omega) with ⟨m0, p0, _⟩ | ⟨t, m1, lt, p0, _⟩
    · by_cases l : bg < nt
      · simp (disch := omega) only [wpX_begin, wpX_isClient, wpX_drawTimestamp, wpY_begin, wpY_badClient, hc, hc', p0, l, pl_nq, pl_cc, pl_vc, pl_le8, pl_le32, pl_lt64, pl_lt1, pl_lt8, pl_lt32, nI_pos, nI_pos', vp_in_nI, nI_clamp, nI_1, nI_leI, nI_ltI, nI_eq, forall_eq, true_implies, forall_const, not_true_eq_false, not_false_eq_true, false_implies, and_true, true_and, implies_true, and_self, eq_self]
        exact pl_mk (pl_beg H (by omega) m0 l)
      · simp (disch := omega) only [wpX_begin, wpX_isClient, wpX_drawTimestamp, wpY_begin, wpY_badClient, hc, hc', p0, l, pl_nq, pl_cc, pl_vc, pl_le8, pl_le32, pl_lt64, pl_lt1, pl_lt8, pl_lt32, nI_pos, nI_pos', vp_in_nI, nI_clamp, nI_1, nI_leI, nI_ltI, nI_eq, forall_eq, true_implies, forall_const, not_true_eq_false, not_false_eq_true, false_implies, and_true, true_and, implies_true, and_self, eq_self]
        exact pl_mk H
    · simp (disch := omega) only [wpX_begin, wpX_isClient, wpX_drawTimestamp, wpY_begin, wpY_badClient, hc, hc', p0, pl_nq, pl_cc, pl_vc, pl_le8, pl_le32, pl_lt64, pl_lt1, pl_lt8, pl_lt32, nI_pos, nI_pos', vp_in_nI, nI_clamp, nI_1, nI_leI, nI_ltI, nI_eq, forall_eq, true_implies, forall_const, not_true_eq_false, not_false_eq_true, false_implies, and_true, true_and, implies_true, and_self, eq_self]
      exact pl_mk H
theorem i_vc_put {k : Nat} {u : SX} {v : SY} (I : i_Rel k u v) (hk : k + 4 ≤ 2052) (v1 : Int32) (v2 : Int32) (v3 : Int32) : wpX_put (fun r u' => wpY_put (fun r' v' => r' = r ∧ i_Rel (k + 4) u' v') v v1 v2 v3) u v1 v2 v3 := by
  obtain ⟨nc, nr, nl, nt, ck, bg, S, P, M, ph, xs, xp, xq, xg, xv, xf, xl, xc, xh, xw, xz, ym, yf, ys, yp, yq, yl, yg, yv, rfl, rfl, H⟩ := I
  have hb := pl_b H
  rcases pl_ix v1 (n := nc) (by omega) with h | ⟨h, h', h''⟩ | ⟨c, hc, rfl⟩
  · simp (disch := omega) only [wpX_put, wpX_isClient, wpY_put, wpY_badClient, h, pl_nq, pl_cc, pl_vc, pl_le8, pl_le32, pl_lt64, pl_lt1, pl_lt8, pl_lt32, nI_pos, nI_pos', vp_in_nI, nI_clamp, nI_1, nI_leI, nI_ltI, nI_eq, forall_eq, true_implies, forall_const, not_true_eq_false, not_false_eq_true, false_implies, and_true, true_and, implies_true, and_self, eq_self]
    exact pl_mk H
  · simp (disch := omega) only [wpX_put, wpX_isClient, wpY_put, wpY_badClient, h, h', h'', pl_nq, pl_cc, pl_vc, pl_le8, pl_le32, pl_lt64, pl_lt1, pl_lt8, pl_lt32, nI_pos, nI_pos', vp_in_nI, nI_clamp, nI_1, nI_leI, nI_ltI, nI_eq, forall_eq, true_implies, forall_const, not_true_eq_false, not_false_eq_true, false_implies, and_true, true_and, implies_true, and_self, eq_self]
    exact pl_mk H
  · have hc' : ¬ nc ≤ c := by omega
    rcases pl_ix v2 (n := nr) (by omega) with h | ⟨h, h', h''⟩ | ⟨r, hr, rfl⟩
    · simp (disch := omega) only [wpX_put, wpX_isClient, wpX_isRow, wpY_put, wpY_badClient, wpY_badRow, hc, hc', h, pl_nq, pl_cc, pl_vc, pl_le8, pl_le32, pl_lt64, pl_lt1, pl_lt8, pl_lt32, nI_pos, nI_pos', vp_in_nI, nI_clamp, nI_1, nI_leI, nI_ltI, nI_eq, forall_eq, true_implies, forall_const, not_true_eq_false, not_false_eq_true, false_implies, and_true, true_and, implies_true, and_self, eq_self]
      exact pl_mk H
    · simp (disch := omega) only [wpX_put, wpX_isClient, wpX_isRow, wpY_put, wpY_badClient, wpY_badRow, hc, hc', h, h', h'', pl_nq, pl_cc, pl_vc, pl_le8, pl_le32, pl_lt64, pl_lt1, pl_lt8, pl_lt32, nI_pos, nI_pos', vp_in_nI, nI_clamp, nI_1, nI_leI, nI_ltI, nI_eq, forall_eq, true_implies, forall_const, not_true_eq_false, not_false_eq_true, false_implies, and_true, true_and, implies_true, and_self, eq_self]
      exact pl_mk H
    · have hr' : ¬ nr ≤ r := by omega
      by_cases w1 : v3 < -1
      · simp (disch := omega) only [wpX_put, wpX_isClient, wpX_isRow, wpY_put, wpY_badClient, wpY_badRow, hc, hc', hr, hr', w1, pl_nq, pl_cc, pl_vc, pl_le8, pl_le32, pl_lt64, pl_lt1, pl_lt8, pl_lt32, nI_pos, nI_pos', vp_in_nI, nI_clamp, nI_1, nI_leI, nI_ltI, nI_eq, forall_eq, true_implies, forall_const, not_true_eq_false, not_false_eq_true, false_implies, and_true, true_and, implies_true, and_self, eq_self]
        exact pl_mk H
      · by_cases w2 : v3 ≤ 9999
        · rcases pl_cl H (c := c) (by omega) with ⟨m0, p0, _⟩ | ⟨t, m1, lt, p0, em, _⟩
          · simp (disch := omega) only [wpX_put, wpX_isClient, wpX_isRow, wpY_put, wpY_badClient, wpY_badRow, hc, hc', hr, hr', w1, w2, p0, pl_nq, pl_cc, pl_vc, pl_le8, pl_le32, pl_lt64, pl_lt1, pl_lt8, pl_lt32, nI_pos, nI_pos', vp_in_nI, nI_clamp, nI_1, nI_leI, nI_ltI, nI_eq, forall_eq, true_implies, forall_const, not_true_eq_false, not_false_eq_true, false_implies, and_true, true_and, implies_true, and_self, eq_self]
            exact pl_mk H
          · by_cases p1 : ph c = 1
            · simp (disch := omega) only [wpX_put, wpX_isClient, wpX_isRow, wpX_clientCell, wpY_put, wpY_badClient, wpY_badRow, hc, hc', hr, hr', w1, w2, p1, em, pl_nq, pl_cc, pl_vc, pl_le8, pl_le32, pl_lt64, pl_lt1, pl_lt8, pl_lt32, nI_pos, nI_pos', vp_in_nI, nI_clamp, nI_1, nI_leI, nI_ltI, nI_eq, forall_eq, true_implies, forall_const, not_true_eq_false, not_false_eq_true, false_implies, and_true, true_and, implies_true, and_self, eq_self]
              exact pl_mk (pl_put H (by omega) m1 p1 hr)
            · simp (disch := omega) only [wpX_put, wpX_isClient, wpX_isRow, wpY_put, wpY_badClient, wpY_badRow, hc, hc', hr, hr', w1, w2, p0, p1, pl_nq, pl_cc, pl_vc, pl_le8, pl_le32, pl_lt64, pl_lt1, pl_lt8, pl_lt32, nI_pos, nI_pos', vp_in_nI, nI_clamp, nI_1, nI_leI, nI_ltI, nI_eq, forall_eq, true_implies, forall_const, not_true_eq_false, not_false_eq_true, false_implies, and_true, true_and, implies_true, and_self, eq_self]
              exact pl_mk H
        · simp (disch := omega) only [wpX_put, wpX_isClient, wpX_isRow, wpY_put, wpY_badClient, wpY_badRow, hc, hc', hr, hr', w1, w2, pl_nq, pl_cc, pl_vc, pl_le8, pl_le32, pl_lt64, pl_lt1, pl_lt8, pl_lt32, nI_pos, nI_pos', vp_in_nI, nI_clamp, nI_1, nI_leI, nI_ltI, nI_eq, forall_eq, true_implies, forall_const, not_true_eq_false, not_false_eq_true, false_implies, and_true, true_and, implies_true, and_self, eq_self]
          exact pl_mk H
theorem i_vc_heartbeat {k : Nat} {u : SX} {v : SY} (I : i_Rel k u v) (hk : k + 4 ≤ 2052) (v1 : Int32) : wpX_heartbeat (fun r u' => wpY_heartbeat (fun r' v' => r' = r ∧ i_Rel (k + 4) u' v') v v1) u v1 := by
  obtain ⟨nc, nr, nl, nt, ck, bg, S, P, M, ph, xs, xp, xq, xg, xv, xf, xl, xc, xh, xw, xz, ym, yf, ys, yp, yq, yl, yg, yv, rfl, rfl, H⟩ := I
  have hb := pl_b H
  rcases pl_ix v1 (n := nc) (by omega) with h | ⟨h, h', h''⟩ | ⟨c, hc, rfl⟩
  · simp (disch := omega) only [wpX_heartbeat, wpX_isClient, wpY_heartbeat, wpY_badClient, h, pl_nq, pl_cc, pl_vc, pl_le8, pl_le32, pl_lt64, pl_lt1, pl_lt8, pl_lt32, nI_pos, nI_pos', vp_in_nI, nI_clamp, nI_1, nI_leI, nI_ltI, nI_eq, forall_eq, true_implies, forall_const, not_true_eq_false, not_false_eq_true, false_implies, and_true, true_and, implies_true, and_self, eq_self]
    exact pl_mk H
  · simp (disch := omega) only [wpX_heartbeat, wpX_isClient, wpY_heartbeat, wpY_badClient, h, h', h'', pl_nq, pl_cc, pl_vc, pl_le8, pl_le32, pl_lt64, pl_lt1, pl_lt8, pl_lt32, nI_pos, nI_pos', vp_in_nI, nI_clamp, nI_1, nI_leI, nI_ltI, nI_eq, forall_eq, true_implies, forall_const, not_true_eq_false, not_false_eq_true, false_implies, and_true, true_and, implies_true, and_self, eq_self]
    exact pl_mk H
  · have hc' : ¬ nc ≤ c := by omega
    rcases pl_cl H (c := c) (by omega) with ⟨m0, p0, _⟩ | ⟨t, m1, lt, p0, em, es, et, l1, l2, ef, _⟩
    · simp (disch := omega) only [wpX_heartbeat, wpX_isClient, wpY_heartbeat, wpY_badClient, hc, hc', p0, pl_nq, pl_cc, pl_vc, pl_le8, pl_le32, pl_lt64, pl_lt1, pl_lt8, pl_lt32, nI_pos, nI_pos', vp_in_nI, nI_clamp, nI_1, nI_leI, nI_ltI, nI_eq, forall_eq, true_implies, forall_const, not_true_eq_false, not_false_eq_true, false_implies, and_true, true_and, implies_true, and_self, eq_self]
      exact pl_mk H
    · by_cases p1 : ph c = 1
      · simp (disch := omega) only [wpX_heartbeat, wpX_isClient, wpY_heartbeat, wpY_badClient, hc, hc', p1, pl_nq, pl_cc, pl_vc, pl_le8, pl_le32, pl_lt64, pl_lt1, pl_lt8, pl_lt32, nI_pos, nI_pos', vp_in_nI, nI_clamp, nI_1, nI_leI, nI_ltI, nI_eq, forall_eq, true_implies, forall_const, not_true_eq_false, not_false_eq_true, false_implies, and_true, true_and, implies_true, and_self, eq_self]
        exact pl_mk H
      · by_cases p4 : ph c = 4
        · simp (disch := omega) only [wpX_heartbeat, wpX_isClient, wpY_heartbeat, wpY_badClient, hc, hc', p4, pl_nq, pl_cc, pl_vc, pl_le8, pl_le32, pl_lt64, pl_lt1, pl_lt8, pl_lt32, nI_pos, nI_pos', vp_in_nI, nI_clamp, nI_1, nI_leI, nI_ltI, nI_eq, forall_eq, true_implies, forall_const, not_true_eq_false, not_false_eq_true, false_implies, and_true, true_and, implies_true, and_self, eq_self]
          exact pl_mk H
        · by_cases f4 : yf t = 4
          · simp (disch := omega) only [wpX_heartbeat, wpX_isClient, wpY_heartbeat, wpY_badClient, hc, hc', p0, p1, p4, em, es, ef, f4, pl_nq, pl_cc, pl_vc, pl_le8, pl_le32, pl_lt64, pl_lt1, pl_lt8, pl_lt32, nI_pos, nI_pos', vp_in_nI, nI_clamp, nI_1, nI_leI, nI_ltI, nI_eq, forall_eq, true_implies, forall_const, not_true_eq_false, not_false_eq_true, false_implies, and_true, true_and, implies_true, and_self, eq_self]
            exact pl_mk H
          · simp (disch := omega) only [wpX_heartbeat, wpX_isClient, wpY_heartbeat, wpY_badClient, hc, hc', p0, p1, p4, em, es, ef, f4, pl_nq, pl_cc, pl_vc, pl_le8, pl_le32, pl_lt64, pl_lt1, pl_lt8, pl_lt32, nI_pos, nI_pos', vp_in_nI, nI_clamp, nI_1, nI_leI, nI_ltI, nI_eq, forall_eq, true_implies, forall_const, not_true_eq_false, not_false_eq_true, false_implies, and_true, true_and, implies_true, and_self, eq_self]
            exact pl_mk (pl_beat H lt)
theorem i_vc_crash {k : Nat} {u : SX} {v : SY} (I : i_Rel k u v) (hk : k + 4 ≤ 2052) (v1 : Int32) : wpX_crash (fun r u' => wpY_crash (fun r' v' => r' = r ∧ i_Rel (k + 4) u' v') v v1) u v1 := by
  obtain ⟨nc, nr, nl, nt, ck, bg, S, P, M, ph, xs, xp, xq, xg, xv, xf, xl, xc, xh, xw, xz, ym, yf, ys, yp, yq, yl, yg, yv, rfl, rfl, H⟩ := I
  have hb := pl_b H
  rcases pl_ix v1 (n := nc) (by omega) with h | ⟨h, h', h''⟩ | ⟨c, hc, rfl⟩
  · simp (disch := omega) only [wpX_crash, wpX_isClient, wpY_crash, wpY_badClient, h, pl_nq, pl_cc, pl_vc, pl_le8, pl_le32, pl_lt64, pl_lt1, pl_lt8, pl_lt32, nI_pos, nI_pos', vp_in_nI, nI_clamp, nI_1, nI_leI, nI_ltI, nI_eq, forall_eq, true_implies, forall_const, not_true_eq_false, not_false_eq_true, false_implies, and_true, true_and, implies_true, and_self, eq_self]
    exact pl_mk H
  · simp (disch := omega) only [wpX_crash, wpX_isClient, wpY_crash, wpY_badClient, h, h', h'', pl_nq, pl_cc, pl_vc, pl_le8, pl_le32, pl_lt64, pl_lt1, pl_lt8, pl_lt32, nI_pos, nI_pos', vp_in_nI, nI_clamp, nI_1, nI_leI, nI_ltI, nI_eq, forall_eq, true_implies, forall_const, not_true_eq_false, not_false_eq_true, false_implies, and_true, true_and, implies_true, and_self, eq_self]
    exact pl_mk H
  · have hc' : ¬ nc ≤ c := by omega
    rcases pl_cl H (c := c) (by omega) with ⟨m0, p0, _⟩ | ⟨t, m1, lt, p0, _⟩
    · simp (disch := omega) only [wpX_crash, wpX_isClient, wpY_crash, wpY_badClient, hc, hc', p0, pl_nq, pl_cc, pl_vc, pl_le8, pl_le32, pl_lt64, pl_lt1, pl_lt8, pl_lt32, nI_pos, nI_pos', vp_in_nI, nI_clamp, nI_1, nI_leI, nI_ltI, nI_eq, forall_eq, true_implies, forall_const, not_true_eq_false, not_false_eq_true, false_implies, and_true, true_and, implies_true, and_self, eq_self]
      exact pl_mk H
    · simp (disch := omega) only [wpX_crash, wpX_isClient, wpY_crash, wpY_badClient, hc, hc', p0, pl_nq, pl_cc, pl_vc, pl_le8, pl_le32, pl_lt64, pl_lt1, pl_lt8, pl_lt32, nI_pos, nI_pos', vp_in_nI, nI_clamp, nI_1, nI_leI, nI_ltI, nI_eq, forall_eq, true_implies, forall_const, not_true_eq_false, not_false_eq_true, false_implies, and_true, true_and, implies_true, and_self, eq_self]
      refine px_idle (by omega) ?_
      exact pl_mk (pl_idle H (c := c) (by omega))
theorem i_vc_abandon {k : Nat} {u : SX} {v : SY} (I : i_Rel k u v) (hk : k + 4 ≤ 2052) (v1 : Int32) : wpX_abandon (fun r u' => wpY_abandon (fun r' v' => r' = r ∧ i_Rel (k + 4) u' v') v v1) u v1 := by
  obtain ⟨nc, nr, nl, nt, ck, bg, S, P, M, ph, xs, xp, xq, xg, xv, xf, xl, xc, xh, xw, xz, ym, yf, ys, yp, yq, yl, yg, yv, rfl, rfl, H⟩ := I
  have hb := pl_b H
  rcases pl_ix v1 (n := nc) (by omega) with h | ⟨h, h', h''⟩ | ⟨c, hc, rfl⟩
  · simp (disch := omega) only [wpX_abandon, wpX_isClient, wpY_abandon, wpY_badClient, h, pl_nq, pl_cc, pl_vc, pl_le8, pl_le32, pl_lt64, pl_lt1, pl_lt8, pl_lt32, nI_pos, nI_pos', vp_in_nI, nI_clamp, nI_1, nI_leI, nI_ltI, nI_eq, forall_eq, true_implies, forall_const, not_true_eq_false, not_false_eq_true, false_implies, and_true, true_and, implies_true, and_self, eq_self]
    exact pl_mk H
  · simp (disch := omega) only [wpX_abandon, wpX_isClient, wpY_abandon, wpY_badClient, h, h', h'', pl_nq, pl_cc, pl_vc, pl_le8, pl_le32, pl_lt64, pl_lt1, pl_lt8, pl_lt32, nI_pos, nI_pos', vp_in_nI, nI_clamp, nI_1, nI_leI, nI_ltI, nI_eq, forall_eq, true_implies, forall_const, not_true_eq_false, not_false_eq_true, false_implies, and_true, true_and, implies_true, and_self, eq_self]
    exact pl_mk H
  · have hc' : ¬ nc ≤ c := by omega
    rcases pl_cl H (c := c) (by omega) with ⟨m0, p0, _⟩ | ⟨t, m1, lt, p0, em, es, et, l1, l2, ef, _⟩
    · simp (disch := omega) only [wpX_abandon, wpX_isClient, wpY_abandon, wpY_badClient, hc, hc', p0, pl_nq, pl_cc, pl_vc, pl_le8, pl_le32, pl_lt64, pl_lt1, pl_lt8, pl_lt32, nI_pos, nI_pos', vp_in_nI, nI_clamp, nI_1, nI_leI, nI_ltI, nI_eq, forall_eq, true_implies, forall_const, not_true_eq_false, not_false_eq_true, false_implies, and_true, true_and, implies_true, and_self, eq_self]
      exact pl_mk H
    · by_cases p4 : ph c = 4
      · simp (disch := omega) only [wpX_abandon, wpX_isClient, wpY_abandon, wpY_badClient, hc, hc', p4, pl_nq, pl_cc, pl_vc, pl_le8, pl_le32, pl_lt64, pl_lt1, pl_lt8, pl_lt32, nI_pos, nI_pos', vp_in_nI, nI_clamp, nI_1, nI_leI, nI_ltI, nI_eq, forall_eq, true_implies, forall_const, not_true_eq_false, not_false_eq_true, false_implies, and_true, true_and, implies_true, and_self, eq_self]
        exact pl_mk H
      · have H' := pl_idle H (c := c) (by omega)
        by_cases f4 : yf t = 4
        · simp (disch := omega) only [wpX_abandon, wpX_isClient, wpY_abandon, wpY_badClient, hc, hc', p0, p4, em, es, f4, pl_nq, pl_cc, pl_vc, pl_le8, pl_le32, pl_lt64, pl_lt1, pl_lt8, pl_lt32, nI_pos, nI_pos', vp_in_nI, nI_clamp, nI_1, nI_leI, nI_ltI, nI_eq, forall_eq, true_implies, forall_const, not_true_eq_false, not_false_eq_true, false_implies, and_true, true_and, implies_true, and_self, eq_self]
          refine px_idle (by omega) ?_
          simp (disch := omega) only [ef, f4, pl_cc, pl_vc, pl_le8, pl_le32, pl_lt64, pl_lt1, pl_lt8, pl_lt32, nI_pos, nI_pos', vp_in_nI, nI_clamp, nI_1, nI_leI, nI_ltI, nI_eq, forall_eq, true_implies, forall_const, not_true_eq_false, not_false_eq_true, false_implies, and_true, true_and, implies_true, and_self, eq_self]
          exact pl_mk H'
        · by_cases f2 : yf t = 2
          · simp (disch := omega) only [wpX_abandon, wpX_isClient, wpY_abandon, wpY_badClient, hc, hc', p0, p4, em, es, f2, pl_nq, pl_cc, pl_vc, pl_le8, pl_le32, pl_lt64, pl_lt1, pl_lt8, pl_lt32, nI_pos, nI_pos', vp_in_nI, nI_clamp, nI_1, nI_leI, nI_ltI, nI_eq, forall_eq, true_implies, forall_const, not_true_eq_false, not_false_eq_true, false_implies, and_true, true_and, implies_true, and_self, eq_self]
            refine px_idle (by omega) ?_
            simp (disch := omega) only [ef, f2, pl_nq, pl_cc, pl_vc, pl_le8, pl_le32, pl_lt64, pl_lt1, pl_lt8, pl_lt32, nI_pos, nI_pos', vp_in_nI, nI_clamp, nI_1, nI_leI, nI_ltI, nI_eq, forall_eq, true_implies, forall_const, not_true_eq_false, not_false_eq_true, false_implies, and_true, true_and, implies_true, and_self, eq_self]
            refine px_roll (by omega) (by omega) ?_
            exact pl_mk (pl_roll H' lt f2)
          · simp (disch := omega) only [wpX_abandon, wpX_isClient, wpY_abandon, wpY_badClient, hc, hc', p0, p4, em, es, f4, f2, pl_nq, pl_cc, pl_vc, pl_le8, pl_le32, pl_lt64, pl_lt1, pl_lt8, pl_lt32, nI_pos, nI_pos', vp_in_nI, nI_clamp, nI_1, nI_leI, nI_ltI, nI_eq, forall_eq, true_implies, forall_const, not_true_eq_false, not_false_eq_true, false_implies, and_true, true_and, implies_true, and_self, eq_self]
            refine px_idle (by omega) ?_
            simp (disch := omega) only [ef, f4, f2, pl_cc, pl_vc, pl_le8, pl_le32, pl_lt64, pl_lt1, pl_lt8, pl_lt32, nI_pos, nI_pos', vp_in_nI, nI_clamp, nI_1, nI_leI, nI_ltI, nI_eq, forall_eq, true_implies, forall_const, not_true_eq_false, not_false_eq_true, false_implies, and_true, true_and, implies_true, and_self, eq_self]
            exact pl_mk H'
theorem i_vc_tick {k : Nat} {u : SX} {v : SY} (I : i_Rel k u v) (hk : k + 4 ≤ 2052) (v1 : Int32) : wpX_tick (fun r u' => wpY_tick (fun r' v' => r' = r ∧ i_Rel (k + 4) u' v') v v1) u v1 := by
  obtain ⟨nc, nr, nl, nt, ck, bg, S, P, M, ph, xs, xp, xq, xg, xv, xf, xl, xc, xh, xw, xz, ym, yf, ys, yp, yq, yl, yg, yv, rfl, rfl, H⟩ := I
  by_cases h : 1 ≤ v1
  · refine br_t h ⟨65, ?_⟩
    rw [← pl_xt_1 (n := v1) (xf := xf) (xl := xl)]
    refine px_tkl ?_ 64 1 (by decide) (by decide)
    refine br_t h ⟨33, ?_⟩
    rw [← pl_yt_0 (n := v1) (yf := yf) (yl := yl)]
    refine py_tkl ?_ 32 0 (by decide)
    exact ⟨rfl, pl_mk (pl_tick H v1)⟩
  · exact br_f h (br_f h ⟨rfl, pl_mk H⟩)
end PLI
end
section
section PLJ
variable {nc nr nl nt ck bg : Nat} {S P M : Nat → Nat} {ph xs xp xq xg xv xf xl xc xh xw xz ym yf ys yp yq yl yg yv : Nat → Int32}
theorem i_vc_peek {k : Nat} {u : SX} {v : SY} (I : i_Rel k u v) (hk : k + 4 ≤ 2052) (v1 : Int32) (v2 : Int32) : wpX_peek (fun r => wpY_peek (fun r' => r' = r ∧ i_Rel (k + 4) u v) v v1 v2) u v1 v2 := by
  obtain ⟨nc, nr, nl, nt, ck, bg, S, P, M, ph, xs, xp, xq, xg, xv, xf, xl, xc, xh, xw, xz, ym, yf, ys, yp, yq, yl, yg, yv, rfl, rfl, H⟩ := I
  have hb := pl_b H
  rcases pl_ix v1 (n := nr) (by omega) with h | ⟨h, h', h''⟩ | ⟨r, hr, rfl⟩
  · simp (disch := omega) only [wpX_peek, wpX_isRow, wpY_peek, wpY_badRow, h, pl_nq, pl_cc, pl_vc, pl_le8, pl_le32, pl_lt64, pl_lt1, pl_lt8, pl_lt32, nI_pos, nI_pos', vp_in_nI, nI_clamp, nI_1, nI_leI, nI_ltI, nI_eq, forall_eq, true_implies, forall_const, not_true_eq_false, not_false_eq_true, false_implies, and_true, true_and, implies_true, and_self, eq_self]
    exact pl_mk H
  · simp (disch := omega) only [wpX_peek, wpX_isRow, wpY_peek, wpY_badRow, h, h', h'', pl_nq, pl_cc, pl_vc, pl_le8, pl_le32, pl_lt64, pl_lt1, pl_lt8, pl_lt32, nI_pos, nI_pos', vp_in_nI, nI_clamp, nI_1, nI_leI, nI_ltI, nI_eq, forall_eq, true_implies, forall_const, not_true_eq_false, not_false_eq_true, false_implies, and_true, true_and, implies_true, and_self, eq_self]
    exact pl_mk H
  · have hr' : ¬ nr ≤ r := by omega
    simp (disch := omega) only [wpX_peek, wpX_isRow, wpX_valueAt, wpY_peek, wpY_badRow, hr, hr', pl_nq, pl_cc, pl_vc, pl_le8, pl_le32, pl_lt64, pl_lt1, pl_lt8, pl_lt32, nI_pos, nI_pos', vp_in_nI, nI_clamp, nI_1, nI_leI, nI_ltI, nI_eq, forall_eq, true_implies, forall_const, not_true_eq_false, not_false_eq_true, false_implies, and_true, true_and, implies_true, and_self, eq_self]
    rcases pl_nwb H (r := r) (by omega) v2 v2 (fun q => nI q ≤ v2) (fun _ _ => Iff.rfl) (fun _ _ => Int32.not_lt) with ⟨t, lt, f3, l1, l2, ep, ez, kX, kY⟩ | ⟨kX, kY⟩
    · refine kX _ ?_
      have ne : ¬ nI (P t) = -1 := pl_ne1 (by omega)
      simp (disch := omega) only [wpX_versionCell, ne, pl_cc, pl_vc, pl_le8, pl_le32, pl_lt64, pl_lt1, pl_lt8, pl_lt32, nI_pos, nI_pos', vp_in_nI, nI_clamp, nI_1, nI_leI, nI_ltI, nI_eq, forall_eq, true_implies, forall_const, not_true_eq_false, not_false_eq_true, false_implies, and_true, true_and, implies_true, and_self, eq_self]
      refine kY _ ?_
      simp (disch := omega) only [ez, pl_cc, pl_vc, pl_le8, pl_le32, pl_lt64, pl_lt1, pl_lt8, pl_lt32, nI_pos, nI_pos', vp_in_nI, nI_clamp, nI_1, nI_leI, nI_ltI, nI_eq, forall_eq, true_implies, forall_const, not_true_eq_false, not_false_eq_true, false_implies, and_true, true_and, implies_true, and_self, eq_self]
      exact pl_mk H
    · refine kX _ ?_
      simp (disch := omega) only [pl_m1, pl_cc, pl_vc, pl_le8, pl_le32, pl_lt64, pl_lt1, pl_lt8, pl_lt32, nI_pos, nI_pos', vp_in_nI, nI_clamp, nI_1, nI_leI, nI_ltI, nI_eq, forall_eq, true_implies, forall_const, not_true_eq_false, not_false_eq_true, false_implies, and_true, true_and, implies_true, and_self, eq_self]
      refine kY _ ?_
      simp (disch := omega) only [pl_m1, pl_cc, pl_vc, pl_le8, pl_le32, pl_lt64, pl_lt1, pl_lt8, pl_lt32, nI_pos, nI_pos', vp_in_nI, nI_clamp, nI_1, nI_leI, nI_ltI, nI_eq, forall_eq, true_implies, forall_const, not_true_eq_false, not_false_eq_true, false_implies, and_true, true_and, implies_true, and_self, eq_self]
      exact pl_mk H
theorem i_vc_versionTime {k : Nat} {u : SX} {v : SY} (I : i_Rel k u v) (hk : k + 4 ≤ 2052) (v1 : Int32) (v2 : Int32) : wpX_versionTime (fun r => wpY_versionTime (fun r' => r' = r ∧ i_Rel (k + 4) u v) v v1 v2) u v1 v2 := by
  obtain ⟨nc, nr, nl, nt, ck, bg, S, P, M, ph, xs, xp, xq, xg, xv, xf, xl, xc, xh, xw, xz, ym, yf, ys, yp, yq, yl, yg, yv, rfl, rfl, H⟩ := I
  have hb := pl_b H
  rcases pl_ix v1 (n := nr) (by omega) with h | ⟨h, h', h''⟩ | ⟨r, hr, rfl⟩
  · simp (disch := omega) only [wpX_versionTime, wpX_isRow, wpY_versionTime, wpY_badRow, h, pl_nq, pl_cc, pl_vc, pl_le8, pl_le32, pl_lt64, pl_lt1, pl_lt8, pl_lt32, nI_pos, nI_pos', vp_in_nI, nI_clamp, nI_1, nI_leI, nI_ltI, nI_eq, forall_eq, true_implies, forall_const, not_true_eq_false, not_false_eq_true, false_implies, and_true, true_and, implies_true, and_self, eq_self]
    exact pl_mk H
  · simp (disch := omega) only [wpX_versionTime, wpX_isRow, wpY_versionTime, wpY_badRow, h, h', h'', pl_nq, pl_cc, pl_vc, pl_le8, pl_le32, pl_lt64, pl_lt1, pl_lt8, pl_lt32, nI_pos, nI_pos', vp_in_nI, nI_clamp, nI_1, nI_leI, nI_ltI, nI_eq, forall_eq, true_implies, forall_const, not_true_eq_false, not_false_eq_true, false_implies, and_true, true_and, implies_true, and_self, eq_self]
    exact pl_mk H
  · have hr' : ¬ nr ≤ r := by omega
    simp (disch := omega) only [wpX_versionTime, wpX_isRow, wpY_versionTime, wpY_badRow, hr, hr', pl_nq, pl_cc, pl_vc, pl_le8, pl_le32, pl_lt64, pl_lt1, pl_lt8, pl_lt32, nI_pos, nI_pos', vp_in_nI, nI_clamp, nI_1, nI_leI, nI_ltI, nI_eq, forall_eq, true_implies, forall_const, not_true_eq_false, not_false_eq_true, false_implies, and_true, true_and, implies_true, and_self, eq_self]
    rcases pl_nwb H (r := r) (by omega) v2 v2 (fun q => nI q ≤ v2) (fun _ _ => Iff.rfl) (fun _ _ => Int32.not_lt) with ⟨t, lt, f3, l1, l2, ep, ez, kX, kY⟩ | ⟨kX, kY⟩
    · refine kX _ ?_
      refine kY _ ?_
      simp (disch := omega) only [ep, pl_cc, pl_vc, pl_le8, pl_le32, pl_lt64, pl_lt1, pl_lt8, pl_lt32, nI_pos, nI_pos', vp_in_nI, nI_clamp, nI_1, nI_leI, nI_ltI, nI_eq, forall_eq, true_implies, forall_const, not_true_eq_false, not_false_eq_true, false_implies, and_true, true_and, implies_true, and_self, eq_self]
      exact pl_mk H
    · refine kX _ ?_
      refine kY _ ?_
      simp (disch := omega) only [pl_m1, pl_cc, pl_vc, pl_le8, pl_le32, pl_lt64, pl_lt1, pl_lt8, pl_lt32, nI_pos, nI_pos', vp_in_nI, nI_clamp, nI_1, nI_leI, nI_ltI, nI_eq, forall_eq, true_implies, forall_const, not_true_eq_false, not_false_eq_true, false_implies, and_true, true_and, implies_true, and_self, eq_self]
      exact pl_mk H
theorem i_vc_holder {k : Nat} {u : SX} {v : SY} (I : i_Rel k u v) (hk : k + 4 ≤ 2052) (v1 : Int32) : wpX_holder (fun r => wpY_holder (fun r' => r' = r ∧ i_Rel (k + 4) u v) v v1) u v1 := by
  obtain ⟨nc, nr, nl, nt, ck, bg, S, P, M, ph, xs, xp, xq, xg, xv, xf, xl, xc, xh, xw, xz, ym, yf, ys, yp, yq, yl, yg, yv, rfl, rfl, H⟩ := I
  have hb := pl_b H
  rcases pl_ix v1 (n := nr) (by omega) with h | ⟨h, h', h''⟩ | ⟨r, hr, rfl⟩
  · simp (disch := omega) only [wpX_holder, wpX_isRow, wpY_holder, wpY_badRow, h, pl_nq, pl_cc, pl_vc, pl_le8, pl_le32, pl_lt64, pl_lt1, pl_lt8, pl_lt32, nI_pos, nI_pos', vp_in_nI, nI_clamp, nI_1, nI_leI, nI_ltI, nI_eq, forall_eq, true_implies, forall_const, not_true_eq_false, not_false_eq_true, false_implies, and_true, true_and, implies_true, and_self, eq_self]
    exact pl_mk H
  · simp (disch := omega) only [wpX_holder, wpX_isRow, wpY_holder, wpY_badRow, h, h', h'', pl_nq, pl_cc, pl_vc, pl_le8, pl_le32, pl_lt64, pl_lt1, pl_lt8, pl_lt32, nI_pos, nI_pos', vp_in_nI, nI_clamp, nI_1, nI_leI, nI_ltI, nI_eq, forall_eq, true_implies, forall_const, not_true_eq_false, not_false_eq_true, false_implies, and_true, true_and, implies_true, and_self, eq_self]
    exact pl_mk H
  · have hr' : ¬ nr ≤ r := by omega
    simp (disch := omega) only [wpX_holder, wpX_isRow, wpY_holder, wpY_badRow, hr, hr', pl_nq, pl_cc, pl_vc, pl_le8, pl_le32, pl_lt64, pl_lt1, pl_lt8, pl_lt32, nI_pos, nI_pos', vp_in_nI, nI_clamp, nI_1, nI_leI, nI_ltI, nI_eq, forall_eq, true_implies, forall_const, not_true_eq_false, not_false_eq_true, false_implies, and_true, true_and, implies_true, and_self, eq_self]
    rcases pl_hd H hr with ⟨e, z⟩ | ⟨t, lt, f2, g2, e, et, l1, l2, el, z⟩
    · refine py_ho (by omega) (fun t l a b => absurd b (z t l a)) (fun _ => ?_)
      simp (disch := omega) only [pl_m1, e, pl_cc, pl_vc, pl_le8, pl_le32, pl_lt64, pl_lt1, pl_lt8, pl_lt32, nI_pos, nI_pos', vp_in_nI, nI_clamp, nI_1, nI_leI, nI_ltI, nI_eq, forall_eq, true_implies, forall_const, not_true_eq_false, not_false_eq_true, false_implies, and_true, true_and, implies_true, and_self, eq_self]
      exact pl_mk H
    · refine py_ho (by omega) (fun t' l a b => ?_) (fun z' => absurd g2 (z' t (by omega) f2))
      have n := z t' l a b
      subst n
      simp (disch := omega) only [e, et, pl_cc, pl_vc, pl_le8, pl_le32, pl_lt64, pl_lt1, pl_lt8, pl_lt32, nI_pos, nI_pos', vp_in_nI, nI_clamp, nI_1, nI_leI, nI_ltI, nI_eq, forall_eq, true_implies, forall_const, not_true_eq_false, not_false_eq_true, false_implies, and_true, true_and, implies_true, and_self, eq_self]
      exact pl_mk H
theorem i_vc_leaseLeft {k : Nat} {u : SX} {v : SY} (I : i_Rel k u v) (hk : k + 4 ≤ 2052) (v1 : Int32) : wpX_leaseLeft (fun r => wpY_leaseLeft (fun r' => r' = r ∧ i_Rel (k + 4) u v) v v1) u v1 := by
  obtain ⟨nc, nr, nl, nt, ck, bg, S, P, M, ph, xs, xp, xq, xg, xv, xf, xl, xc, xh, xw, xz, ym, yf, ys, yp, yq, yl, yg, yv, rfl, rfl, H⟩ := I
  have hb := pl_b H
  rcases pl_fd H v1 with ⟨t, lt, rfl, l1, l2, ef, el, ec, es, z⟩ | ⟨a, z⟩
  · have q1 : ¬ S t < 1 := by omega
    have q2 : ¬ 64 < S t := by omega
    by_cases f2 : yf t = 2
    · have el' := el f2
      simp (disch := omega) only [wpX_leaseLeft, wpX_fateAt, q1, q2, ef, f2, el', pl_cc, pl_vc, pl_le8, pl_le32, pl_lt64, pl_lt1, pl_lt8, pl_lt32, nI_pos, nI_pos', vp_in_nI, nI_clamp, nI_1, nI_leI, nI_ltI, nI_eq, forall_eq, true_implies, forall_const, not_true_eq_false, not_false_eq_true, false_implies, and_true, true_and, implies_true, and_self, eq_self]
      refine py_ll (fun t' l a b => ?_) (fun z' => absurd es (z' t (by omega) f2))
      have n := z t' l (by rw [a]; decide) b
      subst n
      exact ⟨rfl, pl_mk H⟩
    · simp (disch := omega) only [wpX_leaseLeft, wpX_fateAt, q1, q2, ef, f2, pl_cc, pl_vc, pl_le8, pl_le32, pl_lt64, pl_lt1, pl_lt8, pl_lt32, nI_pos, nI_pos', vp_in_nI, nI_clamp, nI_1, nI_leI, nI_ltI, nI_eq, forall_eq, true_implies, forall_const, not_true_eq_false, not_false_eq_true, false_implies, and_true, true_and, implies_true, and_self, eq_self]
      refine py_ll (fun t' l a b => ?_) (fun z' => ⟨rfl, pl_mk H⟩)
      have n := z t' l (by rw [a]; decide) b
      subst n
      exact absurd a f2
  · have k2 : ∀ post : Int32 → Prop, post (-1) → wpY_leaseLeft post (nI nc, nI nr, nI nl, nI nt, nI ck, nI bg, ph, ym, yf, ys, yp, yq, yl, yg, yv) v1 := fun post hp => py_ll (fun t' l a b => absurd b (z t' l (by rw [a]; decide))) (fun _ => hp)
    by_cases q1 : v1 < 1
    · simp (disch := omega) only [wpX_leaseLeft, wpX_fateAt, q1, pl_nq, pl_cc, pl_vc, pl_le8, pl_le32, pl_lt64, pl_lt1, pl_lt8, pl_lt32, nI_pos, nI_pos', vp_in_nI, nI_clamp, nI_1, nI_leI, nI_ltI, nI_eq, forall_eq, true_implies, forall_const, not_true_eq_false, not_false_eq_true, false_implies, and_true, true_and, implies_true, and_self, eq_self]
      exact k2 _ ⟨rfl, pl_mk H⟩
    · by_cases q2 : 64 < v1
      · simp (disch := omega) only [wpX_leaseLeft, wpX_fateAt, q1, q2, pl_nq, pl_cc, pl_vc, pl_le8, pl_le32, pl_lt64, pl_lt1, pl_lt8, pl_lt32, nI_pos, nI_pos', vp_in_nI, nI_clamp, nI_1, nI_leI, nI_ltI, nI_eq, forall_eq, true_implies, forall_const, not_true_eq_false, not_false_eq_true, false_implies, and_true, true_and, implies_true, and_self, eq_self]
        exact k2 _ ⟨rfl, pl_mk H⟩
      · have h0 : ¬ v1 < 0 := fun y => q1 (Int32.lt_trans y (by decide))
        obtain ⟨j, hj, rfl⟩ := nI_of2 (n := 64) (by decide) h0 (Int32.not_lt.mp q2)
        have j1 : ¬ j < 1 := fun y => q1 ((pl_lt1 (by omega)).mpr y)
        have j2 : ¬ 64 < j := by omega
        have e0 := a j (by omega) hj rfl
        simp (disch := omega) only [wpX_leaseLeft, wpX_fateAt, j1, j2, e0, pl_nq, pl_cc, pl_vc, pl_le8, pl_le32, pl_lt64, pl_lt1, pl_lt8, pl_lt32, nI_pos, nI_pos', vp_in_nI, nI_clamp, nI_1, nI_leI, nI_ltI, nI_eq, forall_eq, true_implies, forall_const, not_true_eq_false, not_false_eq_true, false_implies, and_true, true_and, implies_true, and_self, eq_self]
        exact k2 _ ⟨rfl, pl_mk H⟩
theorem i_vc_fate {k : Nat} {u : SX} {v : SY} (I : i_Rel k u v) (hk : k + 4 ≤ 2052) (v1 : Int32) : wpX_fate (fun r => wpY_fate (fun r' => r' = r ∧ i_Rel (k + 4) u v) v v1) u v1 := by
  obtain ⟨nc, nr, nl, nt, ck, bg, S, P, M, ph, xs, xp, xq, xg, xv, xf, xl, xc, xh, xw, xz, ym, yf, ys, yp, yq, yl, yg, yv, rfl, rfl, H⟩ := I
  have hb := pl_b H
  rcases pl_fd H v1 with ⟨t, lt, rfl, l1, l2, ef, el, ec, es, z⟩ | ⟨a, z⟩
  · have q1 : ¬ S t < 1 := by omega
    have q2 : ¬ 64 < S t := by omega
    have u2 : ∀ t', t' < 32 → yf t' = 2 → ys t' = nI (S t) → t' = t := fun t' l a b => z t' l (by rw [a]; decide) b
    have u3 : ∀ t', t' < 32 → yf t' = 3 → ys t' = nI (S t) → t' = t := fun t' l a b => z t' l (by rw [a]; decide) b
    by_cases f3 : yf t = 3
    · have ec' := ec f3
      simp (disch := omega) only [wpX_fate, wpX_fateAt, q1, q2, ef, f3, ec', pl_cc, pl_vc, pl_le8, pl_le32, pl_lt64, pl_lt1, pl_lt8, pl_lt32, nI_pos, nI_pos', vp_in_nI, nI_clamp, nI_1, nI_leI, nI_ltI, nI_eq, forall_eq, true_implies, forall_const, not_true_eq_false, not_false_eq_true, false_implies, and_true, true_and, implies_true, and_self, eq_self]
      refine py_ft (fun t' l a b => ?_) (fun t' l a b => ?_) (fun z' => absurd es (z' t (by omega) (Or.inr f3)))
      · have n := u2 t' l a b
        subst n
        rw [a] at f3
        exact absurd f3 (by decide)
      · have n := u3 t' l a b
        subst n
        exact ⟨rfl, pl_mk H⟩
    · by_cases f2 : yf t = 2
      · simp (disch := omega) only [wpX_fate, wpX_fateAt, q1, q2, ef, f2, pl_nq, pl_cc, pl_vc, pl_le8, pl_le32, pl_lt64, pl_lt1, pl_lt8, pl_lt32, nI_pos, nI_pos', vp_in_nI, nI_clamp, nI_1, nI_leI, nI_ltI, nI_eq, forall_eq, true_implies, forall_const, not_true_eq_false, not_false_eq_true, false_implies, and_true, true_and, implies_true, and_self, eq_self]
        refine py_ft (fun t' l a b => ?_) (fun t' l a b => ?_) (fun z' => absurd es (z' t (by omega) (Or.inl f2)))
        · exact ⟨rfl, pl_mk H⟩
        · have n := u3 t' l a b
          subst n
          exact absurd a f3
      · simp (disch := omega) only [wpX_fate, wpX_fateAt, q1, q2, ef, f2, f3, pl_cc, pl_vc, pl_le8, pl_le32, pl_lt64, pl_lt1, pl_lt8, pl_lt32, nI_pos, nI_pos', vp_in_nI, nI_clamp, nI_1, nI_leI, nI_ltI, nI_eq, forall_eq, true_implies, forall_const, not_true_eq_false, not_false_eq_true, false_implies, and_true, true_and, implies_true, and_self, eq_self]
        refine py_ft (fun t' l a b => ?_) (fun t' l a b => ?_) (fun z' => ⟨rfl, pl_mk H⟩)
        · have n := u2 t' l a b
          subst n
          exact absurd a f2
        · have n := u3 t' l a b
          subst n
          exact absurd a f3
  · have k2 : ∀ post : Int32 → Prop, post (-1) → wpY_fate post (nI nc, nI nr, nI nl, nI nt, nI ck, nI bg, ph, ym, yf, ys, yp, yq, yl, yg, yv) v1 := fun post hp => py_ft (fun t' l a b => absurd b (z t' l (by rw [a]; decide))) (fun t' l a b => absurd b (z t' l (by rw [a]; decide))) (fun _ => hp)
    by_cases q1 : v1 < 1
    · simp (disch := omega) only [wpX_fate, wpX_fateAt, q1, pl_nq, pl_cc, pl_vc, pl_le8, pl_le32, pl_lt64, pl_lt1, pl_lt8, pl_lt32, nI_pos, nI_pos', vp_in_nI, nI_clamp, nI_1, nI_leI, nI_ltI, nI_eq, forall_eq, true_implies, forall_const, not_true_eq_false, not_false_eq_true, false_implies, and_true, true_and, implies_true, and_self, eq_self]
      exact k2 _ ⟨rfl, pl_mk H⟩
    · by_cases q2 : 64 < v1
      · simp (disch := omega) only [wpX_fate, wpX_fateAt, q1, q2, pl_nq, pl_cc, pl_vc, pl_le8, pl_le32, pl_lt64, pl_lt1, pl_lt8, pl_lt32, nI_pos, nI_pos', vp_in_nI, nI_clamp, nI_1, nI_leI, nI_ltI, nI_eq, forall_eq, true_implies, forall_const, not_true_eq_false, not_false_eq_true, false_implies, and_true, true_and, implies_true, and_self, eq_self]
        exact k2 _ ⟨rfl, pl_mk H⟩
      · have h0 : ¬ v1 < 0 := fun y => q1 (Int32.lt_trans y (by decide))
        obtain ⟨j, hj, rfl⟩ := nI_of2 (n := 64) (by decide) h0 (Int32.not_lt.mp q2)
        have j1 : ¬ j < 1 := fun y => q1 ((pl_lt1 (by omega)).mpr y)
        have j2 : ¬ 64 < j := by omega
        have e0 := a j (by omega) hj rfl
        simp (disch := omega) only [wpX_fate, wpX_fateAt, j1, j2, e0, pl_nq, pl_cc, pl_vc, pl_le8, pl_le32, pl_lt64, pl_lt1, pl_lt8, pl_lt32, nI_pos, nI_pos', vp_in_nI, nI_clamp, nI_1, nI_leI, nI_ltI, nI_eq, forall_eq, true_implies, forall_const, not_true_eq_false, not_false_eq_true, false_implies, and_true, true_and, implies_true, and_self, eq_self]
        exact k2 _ ⟨rfl, pl_mk H⟩
end PLJ
end
section
section PLK
variable {nc nr nl nt ck bg : Nat} {S P M : Nat → Nat} {ph xs xp xq xg xv xf xl xc xh xw xz ym yf ys yp yq yl yg yv : Nat → Int32}
theorem pl_lk5 : (¬ (0 : Int32) < 0) ∧ ((0 : Int32) ≤ 5) ∧ (¬ (1 : Int32) < 0) ∧ ((1 : Int32) ≤ 5) ∧ (¬ (2 : Int32) < 0) ∧ ((2 : Int32) ≤ 5) ∧ (¬ (3 : Int32) < 0) ∧ ((3 : Int32) ≤ 5) ∧ (¬ (4 : Int32) < 0) ∧ ((4 : Int32) ≤ 5) ∧ (¬ (5 : Int32) < 0) ∧ ((5 : Int32) ≤ 5) ∧ (¬ (5 : Int32) = 0) ∧ (¬ (0 : Int32) = 5) ∧ (¬ (5 : Int32) = 1) ∧ (¬ (1 : Int32) = 5) ∧ (¬ (5 : Int32) = 2) ∧ (¬ (2 : Int32) = 5) ∧ (¬ (5 : Int32) = 3) ∧ (¬ (3 : Int32) = 5) ∧ (¬ (5 : Int32) = 4) ∧ (¬ (4 : Int32) = 5) := by decide
theorem pl_w {x : Int32} (w6 : ¬ x < 0) (w7 : x ≤ 5) : x = 0 ∨ x = 1 ∨ x = 2 ∨ x = 3 ∨ x = 4 ∨ x = 5 := by
  obtain ⟨j, hj, rfl⟩ := nI_of2 (n := 5) (by decide) w6 w7
  have h : j = 0 ∨ j = 1 ∨ j = 2 ∨ j = 3 ∨ j = 4 ∨ j = 5 := by omega
  rcases h with h | h | h | h | h | h <;> subst h <;> decide
theorem i_vc_look {k : Nat} {u : SX} {v : SY} (I : i_Rel k u v) (hk : k + 4 ≤ 2052) (v1 : Int32) (v2 : Int32) (v3 : Int32) : wpX_look (fun r => wpY_look (fun r' => r' = r ∧ i_Rel (k + 4) u v) v v1 v2 v3) u v1 v2 v3 := by
  obtain ⟨nc, nr, nl, nt, ck, bg, S, P, M, ph, xs, xp, xq, xg, xv, xf, xl, xc, xh, xw, xz, ym, yf, ys, yp, yq, yl, yg, yv, rfl, rfl, H⟩ := I
  have hb := pl_b H
  rcases pl_ix v1 (n := nc) (by omega) with h | ⟨h, h', h''⟩ | ⟨c, hc, rfl⟩
  · simp (disch := omega) only [wpX_look, wpX_isClient, wpY_look, wpY_badClient, h, pl_nq, pl_cc, pl_vc, pl_le8, pl_le32, pl_lt64, pl_lt1, pl_lt8, pl_lt32, nI_pos, nI_pos', vp_in_nI, nI_clamp, nI_1, nI_leI, nI_ltI, nI_eq, forall_eq, true_implies, forall_const, not_true_eq_false, not_false_eq_true, false_implies, and_true, true_and, implies_true, and_self, eq_self]
    exact pl_mk H
  · simp (disch := omega) only [wpX_look, wpX_isClient, wpY_look, wpY_badClient, h, h', h'', pl_nq, pl_cc, pl_vc, pl_le8, pl_le32, pl_lt64, pl_lt1, pl_lt8, pl_lt32, nI_pos, nI_pos', vp_in_nI, nI_clamp, nI_1, nI_leI, nI_ltI, nI_eq, forall_eq, true_implies, forall_const, not_true_eq_false, not_false_eq_true, false_implies, and_true, true_and, implies_true, and_self, eq_self]
    exact pl_mk H
  · have hc' : ¬ nc ≤ c := by omega
    have hcl := pl_cl H (c := c) (by omega)
    by_cases w6 : v2 < 0
    · simp (disch := omega) only [wpX_look, wpX_isClient, wpY_look, wpY_badClient, hc, hc', w6, pl_nq, pl_cc, pl_vc, pl_le8, pl_le32, pl_lt64, pl_lt1, pl_lt8, pl_lt32, nI_pos, nI_pos', vp_in_nI, nI_clamp, nI_1, nI_leI, nI_ltI, nI_eq, forall_eq, true_implies, forall_const, not_true_eq_false, not_false_eq_true, false_implies, and_true, true_and, implies_true, and_self, eq_self]
      exact pl_mk H
    · by_cases w7 : v2 ≤ 5
      · rcases pl_w w6 w7 with w | w | w | w | w | w
        · subst w
          simp (disch := omega) only [wpX_look, wpX_isClient, wpY_look, wpY_badClient, wY_look_41, hc, hc', pl_lk5, pl_nq, pl_m1, pl_cc, pl_vc, pl_le8, pl_le32, pl_lt64, pl_lt1, pl_lt8, pl_lt32, nI_pos, nI_pos', vp_in_nI, nI_clamp, nI_1, nI_leI, nI_ltI, nI_eq, forall_eq, true_implies, forall_const, not_true_eq_false, not_false_eq_true, false_implies, and_true, true_and, implies_true, and_self, eq_self]
          exact pl_mk H
        · subst w
          rcases hcl with ⟨m0, p0, e1, e2, e3, e4⟩ | ⟨t, m1, lt, p0, em, es, et, l1, l2, ef, ok, eq, eq', eg, ep, ep', lp⟩
          · simp (disch := omega) only [wpX_look, wpX_isClient, wpY_look, wpY_badClient, wY_look_41, hc, hc', p0, e1, pl_lk5, pl_nq, pl_m1, pl_cc, pl_vc, pl_le8, pl_le32, pl_lt64, pl_lt1, pl_lt8, pl_lt32, nI_pos, nI_pos', vp_in_nI, nI_clamp, nI_1, nI_leI, nI_ltI, nI_eq, forall_eq, true_implies, forall_const, not_true_eq_false, not_false_eq_true, false_implies, and_true, true_and, implies_true, and_self, eq_self]
            exact pl_mk H
          · simp (disch := omega) only [wpX_look, wpX_isClient, wpY_look, wpY_badClient, wY_look_41, hc, hc', p0, em, es, et, pl_lk5, pl_nq, pl_m1, pl_cc, pl_vc, pl_le8, pl_le32, pl_lt64, pl_lt1, pl_lt8, pl_lt32, nI_pos, nI_pos', vp_in_nI, nI_clamp, nI_1, nI_leI, nI_ltI, nI_eq, forall_eq, true_implies, forall_const, not_true_eq_false, not_false_eq_true, false_implies, and_true, true_and, implies_true, and_self, eq_self]
            exact pl_mk H
        · subst w
          rcases hcl with ⟨m0, p0, e1, e2, e3, e4⟩ | ⟨t, m1, lt, p0, em, es, et, l1, l2, ef, ok, eq, eq', eg, ep, ep', lp⟩
          · simp (disch := omega) only [wpX_look, wpX_isClient, wpY_look, wpY_badClient, wY_look_41, hc, hc', p0, e2, pl_lk5, pl_nq, pl_m1, pl_cc, pl_vc, pl_le8, pl_le32, pl_lt64, pl_lt1, pl_lt8, pl_lt32, nI_pos, nI_pos', vp_in_nI, nI_clamp, nI_1, nI_leI, nI_ltI, nI_eq, forall_eq, true_implies, forall_const, not_true_eq_false, not_false_eq_true, false_implies, and_true, true_and, implies_true, and_self, eq_self]
            exact pl_mk H
          · by_cases z : P t = 0
            · rw [if_pos z] at ep
              rw [z, nI_0] at ep'
              simp (disch := omega) only [wpX_look, wpX_isClient, wpY_look, wpY_badClient, wY_look_41, hc, hc', p0, em, ep, ep', pl_lk5, pl_nq, pl_m1, pl_cc, pl_vc, pl_le8, pl_le32, pl_lt64, pl_lt1, pl_lt8, pl_lt32, nI_pos, nI_pos', vp_in_nI, nI_clamp, nI_1, nI_leI, nI_ltI, nI_eq, forall_eq, true_implies, forall_const, not_true_eq_false, not_false_eq_true, false_implies, and_true, true_and, implies_true, and_self, eq_self]
              exact pl_mk H
            · rw [if_neg z] at ep
              have nz : ¬ nI (P t) = 0 := nI_ne0 (by omega) (by omega)
              simp (disch := omega) only [wpX_look, wpX_isClient, wpY_look, wpY_badClient, wY_look_41, hc, hc', p0, em, ep, ep', nz, pl_lk5, pl_nq, pl_m1, pl_cc, pl_vc, pl_le8, pl_le32, pl_lt64, pl_lt1, pl_lt8, pl_lt32, nI_pos, nI_pos', vp_in_nI, nI_clamp, nI_1, nI_leI, nI_ltI, nI_eq, forall_eq, true_implies, forall_const, not_true_eq_false, not_false_eq_true, false_implies, and_true, true_and, implies_true, and_self, eq_self]
              exact pl_mk H
        · subst w
          rcases hcl with ⟨m0, p0, e1, e2, e3, e4⟩ | ⟨t, m1, lt, p0, em, es, et, l1, l2, ef, ok, eq, eq', eg, ep, ep', lp⟩
          · simp (disch := omega) only [wpX_look, wpX_isClient, wpY_look, wpY_badClient, wY_look_41, hc, hc', p0, e3, pl_lk5, pl_nq, pl_m1, pl_cc, pl_vc, pl_le8, pl_le32, pl_lt64, pl_lt1, pl_lt8, pl_lt32, nI_pos, nI_pos', vp_in_nI, nI_clamp, nI_1, nI_leI, nI_ltI, nI_eq, forall_eq, true_implies, forall_const, not_true_eq_false, not_false_eq_true, false_implies, and_true, true_and, implies_true, and_self, eq_self]
            exact pl_mk H
          · rcases eq' with y | y
            · simp (disch := omega) only [wpX_look, wpX_isClient, wpY_look, wpY_badClient, wY_look_41, hc, hc', p0, em, eq, y, pl_lk5, pl_nq, pl_m1, pl_cc, pl_vc, pl_le8, pl_le32, pl_lt64, pl_lt1, pl_lt8, pl_lt32, nI_pos, nI_pos', vp_in_nI, nI_clamp, nI_1, nI_leI, nI_ltI, nI_eq, forall_eq, true_implies, forall_const, not_true_eq_false, not_false_eq_true, false_implies, and_true, true_and, implies_true, and_self, eq_self]
              exact pl_mk H
            · have y0 : (0 : Int32) ≤ yq t := Int32.not_lt.mp y
              simp (disch := omega) only [wpX_look, wpX_isClient, wpY_look, wpY_badClient, wY_look_41, hc, hc', p0, em, eq, y0, pl_lk5, pl_nq, pl_m1, pl_cc, pl_vc, pl_le8, pl_le32, pl_lt64, pl_lt1, pl_lt8, pl_lt32, nI_pos, nI_pos', vp_in_nI, nI_clamp, nI_1, nI_leI, nI_ltI, nI_eq, forall_eq, true_implies, forall_const, not_true_eq_false, not_false_eq_true, false_implies, and_true, true_and, implies_true, and_self, eq_self]
              exact pl_mk H
        · subst w
          rcases pl_ix v3 (n := nr) (by omega) with h | ⟨h, h', h''⟩ | ⟨r, hr, rfl⟩
          · simp (disch := omega) only [wpX_look, wpX_isClient, wX_look_30, wpX_isRow, wpX_lookAtRow, wpX_clientCell, wpY_look, wpY_badClient, wY_look_30, wY_look_41, wpY_badRow, hc, hc', h, pl_lk5, pl_nq, pl_m1, pl_cc, pl_vc, pl_le8, pl_le32, pl_lt64, pl_lt1, pl_lt8, pl_lt32, nI_pos, nI_pos', vp_in_nI, nI_clamp, nI_1, nI_leI, nI_ltI, nI_eq, forall_eq, true_implies, forall_const, not_true_eq_false, not_false_eq_true, false_implies, and_true, true_and, implies_true, and_self, eq_self]
            exact pl_mk H
          · simp (disch := omega) only [wpX_look, wpX_isClient, wX_look_30, wpX_isRow, wpX_lookAtRow, wpX_clientCell, wpY_look, wpY_badClient, wY_look_30, wY_look_41, wpY_badRow, hc, hc', h, h', h'', pl_lk5, pl_nq, pl_m1, pl_cc, pl_vc, pl_le8, pl_le32, pl_lt64, pl_lt1, pl_lt8, pl_lt32, nI_pos, nI_pos', vp_in_nI, nI_clamp, nI_1, nI_leI, nI_ltI, nI_eq, forall_eq, true_implies, forall_const, not_true_eq_false, not_false_eq_true, false_implies, and_true, true_and, implies_true, and_self, eq_self]
            exact pl_mk H
          · have hr' : ¬ nr ≤ r := by omega
            rcases hcl with ⟨m0, p0, e1, e2, e3, e4⟩ | ⟨t, m1, lt, p0, em, es, et, l1, l2, ef, ok, eq, eq', eg, ep, ep', _⟩
            · have g0 := e4 r (by omega)
              simp (disch := omega) only [wpX_look, wpX_isClient, wX_look_30, wpX_isRow, wpX_lookAtRow, wpX_clientCell, wpY_look, wpY_badClient, wY_look_30, wY_look_41, wpY_badRow, hc, hc', hr, hr', p0, g0, pl_lk5, pl_nq, pl_m1, pl_cc, pl_vc, pl_le8, pl_le32, pl_lt64, pl_lt1, pl_lt8, pl_lt32, nI_pos, nI_pos', vp_in_nI, nI_clamp, nI_1, nI_leI, nI_ltI, nI_eq, forall_eq, true_implies, forall_const, not_true_eq_false, not_false_eq_true, false_implies, and_true, true_and, implies_true, and_self, eq_self]
              exact pl_mk H
            · have g0 := (eg r (by omega)).1
              simp (disch := omega) only [wpX_look, wpX_isClient, wX_look_30, wpX_isRow, wpX_lookAtRow, wpX_clientCell, wpY_look, wpY_badClient, wY_look_30, wY_look_41, wpY_badRow, hc, hc', hr, hr', p0, em, g0, pl_lk5, pl_nq, pl_m1, pl_cc, pl_vc, pl_le8, pl_le32, pl_lt64, pl_lt1, pl_lt8, pl_lt32, nI_pos, nI_pos', vp_in_nI, nI_clamp, nI_1, nI_leI, nI_ltI, nI_eq, forall_eq, true_implies, forall_const, not_true_eq_false, not_false_eq_true, false_implies, and_true, true_and, implies_true, and_self, eq_self]
              exact pl_mk H
        · subst w
          rcases pl_ix v3 (n := nr) (by omega) with h | ⟨h, h', h''⟩ | ⟨r, hr, rfl⟩
          · simp (disch := omega) only [wpX_look, wpX_isClient, wX_look_30, wpX_isRow, wpX_lookAtRow, wpX_clientCell, wpY_look, wpY_badClient, wY_look_30, wY_look_41, wpY_badRow, hc, hc', h, pl_lk5, pl_nq, pl_m1, pl_cc, pl_vc, pl_le8, pl_le32, pl_lt64, pl_lt1, pl_lt8, pl_lt32, nI_pos, nI_pos', vp_in_nI, nI_clamp, nI_1, nI_leI, nI_ltI, nI_eq, forall_eq, true_implies, forall_const, not_true_eq_false, not_false_eq_true, false_implies, and_true, true_and, implies_true, and_self, eq_self]
            exact pl_mk H
          · simp (disch := omega) only [wpX_look, wpX_isClient, wX_look_30, wpX_isRow, wpX_lookAtRow, wpX_clientCell, wpY_look, wpY_badClient, wY_look_30, wY_look_41, wpY_badRow, hc, hc', h, h', h'', pl_lk5, pl_nq, pl_m1, pl_cc, pl_vc, pl_le8, pl_le32, pl_lt64, pl_lt1, pl_lt8, pl_lt32, nI_pos, nI_pos', vp_in_nI, nI_clamp, nI_1, nI_leI, nI_ltI, nI_eq, forall_eq, true_implies, forall_const, not_true_eq_false, not_false_eq_true, false_implies, and_true, true_and, implies_true, and_self, eq_self]
            exact pl_mk H
          · have hr' : ¬ nr ≤ r := by omega
            rcases hcl with ⟨m0, p0, e1, e2, e3, e4⟩ | ⟨t, m1, lt, p0, em, es, et, l1, l2, ef, ok, eq, eq', eg, ep, ep', _⟩
            · have g0 := e4 r (by omega)
              simp (disch := omega) only [wpX_look, wpX_isClient, wX_look_30, wpX_isRow, wpX_lookAtRow, wpX_clientCell, wpY_look, wpY_badClient, wY_look_30, wY_look_41, wpY_badRow, hc, hc', hr, hr', p0, g0, pl_lk5, pl_nq, pl_m1, pl_cc, pl_vc, pl_le8, pl_le32, pl_lt64, pl_lt1, pl_lt8, pl_lt32, nI_pos, nI_pos', vp_in_nI, nI_clamp, nI_1, nI_leI, nI_ltI, nI_eq, forall_eq, true_implies, forall_const, not_true_eq_false, not_false_eq_true, false_implies, and_true, true_and, implies_true, and_self, eq_self]
              exact pl_mk H
            · have g0 := (eg r (by omega)).1
              by_cases z : yg (t * 8 + r) = 0
              · simp (disch := omega) only [wpX_look, wpX_isClient, wX_look_30, wpX_isRow, wpX_lookAtRow, wpX_clientCell, wpY_look, wpY_badClient, wY_look_30, wY_look_41, wpY_badRow, hc, hc', hr, hr', p0, em, g0, z, pl_lk5, pl_nq, pl_m1, pl_cc, pl_vc, pl_le8, pl_le32, pl_lt64, pl_lt1, pl_lt8, pl_lt32, nI_pos, nI_pos', vp_in_nI, nI_clamp, nI_1, nI_leI, nI_ltI, nI_eq, forall_eq, true_implies, forall_const, not_true_eq_false, not_false_eq_true, false_implies, and_true, true_and, implies_true, and_self, eq_self]
                exact pl_mk H
              · have g1 := (eg r (by omega)).2 z
                simp (disch := omega) only [wpX_look, wpX_isClient, wX_look_30, wpX_isRow, wpX_lookAtRow, wpX_clientCell, wpY_look, wpY_badClient, wY_look_30, wY_look_41, wpY_badRow, hc, hc', hr, hr', p0, em, g0, g1, z, pl_lk5, pl_nq, pl_m1, pl_cc, pl_vc, pl_le8, pl_le32, pl_lt64, pl_lt1, pl_lt8, pl_lt32, nI_pos, nI_pos', vp_in_nI, nI_clamp, nI_1, nI_leI, nI_ltI, nI_eq, forall_eq, true_implies, forall_const, not_true_eq_false, not_false_eq_true, false_implies, and_true, true_and, implies_true, and_self, eq_self]
                exact pl_mk H
      · simp (disch := omega) only [wpX_look, wpX_isClient, wpY_look, wpY_badClient, hc, hc', w6, w7, pl_nq, pl_cc, pl_vc, pl_le8, pl_le32, pl_lt64, pl_lt1, pl_lt8, pl_lt32, nI_pos, nI_pos', vp_in_nI, nI_clamp, nI_1, nI_leI, nI_ltI, nI_eq, forall_eq, true_implies, forall_const, not_true_eq_false, not_false_eq_true, false_implies, and_true, true_and, implies_true, and_self, eq_self]
        exact pl_mk H
end PLK
end
section
section PLL
variable {nc nr nl nt ck bg : Nat} {S P M : Nat → Nat} {ph xs xp xq xg xv xf xl xc xh xw xz ym yf ys yp yq yl yg yv : Nat → Int32}
theorem i_vc_stamp {k : Nat} {u : SX} {v : SY} (I : i_Rel k u v) (hk : k + 4 ≤ 2052) (v1 : Int32) : wpX_stamp (fun r u' => wpY_stamp (fun r' v' => r' = r ∧ i_Rel (k + 4) u' v') v v1) u v1 := by
  obtain ⟨nc, nr, nl, nt, ck, bg, S, P, M, ph, xs, xp, xq, xg, xv, xf, xl, xc, xh, xw, xz, ym, yf, ys, yp, yq, yl, yg, yv, rfl, rfl, H⟩ := I
  have hb := pl_b H
  rcases pl_ix v1 (n := nc) (by omega) with h | ⟨h, h', h''⟩ | ⟨c, hc, rfl⟩
  · simp (disch := omega) only [wpX_stamp, wpX_isClient, wpY_stamp, wpY_badClient, h, pl_nq, pl_cc, pl_vc, pl_le8, pl_le32, pl_lt64, pl_lt1, pl_lt8, pl_lt32, nI_pos, nI_pos', vp_in_nI, nI_clamp, nI_1, nI_leI, nI_ltI, nI_eq, forall_eq, true_implies, forall_const, not_true_eq_false, not_false_eq_true, false_implies, and_true, true_and, implies_true, and_self, eq_self]
    exact pl_mk H
  · simp (disch := omega) only [wpX_stamp, wpX_isClient, wpY_stamp, wpY_badClient, h, h', h'', pl_nq, pl_cc, pl_vc, pl_le8, pl_le32, pl_lt64, pl_lt1, pl_lt8, pl_lt32, nI_pos, nI_pos', vp_in_nI, nI_clamp, nI_1, nI_leI, nI_ltI, nI_eq, forall_eq, true_implies, forall_const, not_true_eq_false, not_false_eq_true, false_implies, and_true, true_and, implies_true, and_self, eq_self]
    exact pl_mk H
  · have hc' : ¬ nc ≤ c := by omega
    rcases pl_cl H (c := c) (by omega) with ⟨m0, p0, _⟩ | ⟨t, m1, lt, p0, em, es, et, l1, l2, ef, ok, eq, eq', eg, _⟩
    · simp (disch := omega) only [wpX_stamp, wpX_isClient, wpY_stamp, wpY_badClient, hc, hc', p0, pl_nq, pl_cc, pl_vc, pl_le8, pl_le32, pl_lt64, pl_lt1, pl_lt8, pl_lt32, nI_pos, nI_pos', vp_in_nI, nI_clamp, nI_1, nI_leI, nI_ltI, nI_eq, forall_eq, true_implies, forall_const, not_true_eq_false, not_false_eq_true, false_implies, and_true, true_and, implies_true, and_self, eq_self]
      exact pl_mk H
    · by_cases p2 : ph c = 2
      · simp (disch := omega) only [wpX_stamp, wpX_isClient, wpX_drawTimestamp, hc, hc', p2, pl_nq, pl_cc, pl_vc, pl_le8, pl_le32, pl_lt64, pl_lt1, pl_lt8, pl_lt32, nI_pos, nI_pos', vp_in_nI, nI_clamp, nI_1, nI_leI, nI_ltI, nI_eq, forall_eq, true_implies, forall_const, not_true_eq_false, not_false_eq_true, false_implies, and_true, true_and, implies_true, and_self, eq_self]
        refine px_hp (by omega) (by omega) (fun r lr g1 => ?_) (fun hz => ?_)
        · simp (disch := omega) only [wpY_stamp, wpY_badClient, hc, hc', p2, em, pl_nq, pl_cc, pl_vc, pl_le8, pl_le32, pl_lt64, pl_lt1, pl_lt8, pl_lt32, nI_pos, nI_pos', vp_in_nI, nI_clamp, nI_1, nI_leI, nI_ltI, nI_eq, forall_eq, true_implies, forall_const, not_true_eq_false, not_false_eq_true, false_implies, and_true, true_and, implies_true, and_self, eq_self]
          refine py_st (by omega) (by omega) (fun _ _ _ => ?_) (fun z => ?_)
          · exact ⟨rfl, pl_mk H⟩
          · rw [(eg r (by omega)).1] at g1
            exact absurd g1 (z r (by omega))
        · simp (disch := omega) only [wpY_stamp, wpY_badClient, hc, hc', p2, em, pl_us, pl_nq, pl_cc, pl_vc, pl_le8, pl_le32, pl_lt64, pl_lt1, pl_lt8, pl_lt32, nI_pos, nI_pos', vp_in_nI, nI_clamp, nI_1, nI_leI, nI_ltI, nI_eq, forall_eq, true_implies, forall_const, not_true_eq_false, not_false_eq_true, false_implies, and_true, true_and, implies_true, and_self, eq_self]
          refine py_st (by omega) (by omega) (fun r lr g1 => ?_) (fun z => ?_)
          · by_cases l : r < nr
            · have y := hz r l
              rw [(eg r (by omega)).1] at y
              exact absurd g1 y
            · have y := H.2.2.2.2.2.2.1 t r (by omega) (by omega) lr
              rw [g1] at y
              exact absurd y (by decide)
          · exact ⟨rfl, pl_mk (pl_stamp H (by omega) m1 p2)⟩
      · simp (disch := omega) only [wpX_stamp, wpX_isClient, wpY_stamp, wpY_badClient, hc, hc', p0, p2, pl_nq, pl_cc, pl_vc, pl_le8, pl_le32, pl_lt64, pl_lt1, pl_lt8, pl_lt32, nI_pos, nI_pos', vp_in_nI, nI_clamp, nI_1, nI_leI, nI_ltI, nI_eq, forall_eq, true_implies, forall_const, not_true_eq_false, not_false_eq_true, false_implies, and_true, true_and, implies_true, and_self, eq_self]
        exact pl_mk H
/-! a holder in the way -/
def pl_lk (bg r : Nat) (S : Nat → Nat) (xh yf yl yg yf' : Nat → Int32) : Prop :=
  (yf' = yf ∧ ∀ t, t < 32 → yf t = 2 → ¬ yg (t * 8 + r) = 2) ∨ ∃ t, t < bg ∧ yf t = 2 ∧ yg (t * 8 + r) = 2 ∧ yl t ≤ 0 ∧ xh r = nI (S t) ∧ (∀ t', t' < 32 → yf t' = 2 → yg (t' * 8 + r) = 2 → t' = t) ∧ yf' = upd yf t 4
theorem px_clear (H : pl_R nc nr nl nt ck bg S P M ph xs xp xq xg xv xf xl xc xh xw xz ym yf ys yp yq yl yg yv) {r : Nat} (hr : r < nr) {post : Int32 → SX → Prop}
    (hL : ∀ t, t < bg → yf t = 2 → yg (t * 8 + r) = 2 → ¬ yl t ≤ 0 → xh r = nI (S t) → (∀ t', t' < 32 → yf t' = 2 → yg (t' * 8 + r) = 2 → t' = t) → post 0 (nI nc, nI nr, nI nl, nI nt, nI ck, nI bg, ph, xs, xp, xq, xg, xv, xf, xl, xc, xh, xw, xz))
    (hN : ∀ xf' xh' yf', pl_R nc nr nl nt ck bg S P M ph xs xp xq xg xv xf' xl xc xh' xw xz ym yf' ys yp yq yl yg yv → xh' r = -1 → pl_lk bg r S xh yf yl yg yf' → post 1 (nI nc, nI nr, nI nl, nI nt, nI ck, nI bg, ph, xs, xp, xq, xg, xv, xf', xl, xc, xh', xw, xz)) : wpX_clearTheWay post (nI nc, nI nr, nI nl, nI nt, nI ck, nI bg, ph, xs, xp, xq, xg, xv, xf, xl, xc, xh, xw, xz) (nI r) := by
  have hb := pl_b H
  rcases pl_hd H hr with ⟨e, z⟩ | ⟨t, lt, f2, g2, e, et, l1, l2, el, z⟩
  · simp (disch := omega) only [wpX_clearTheWay, e, pl_cc, pl_vc, pl_le8, pl_le32, pl_lt64, pl_lt1, pl_lt8, pl_lt32, nI_pos, nI_pos', vp_in_nI, nI_clamp, nI_1, nI_leI, nI_ltI, nI_eq, forall_eq, true_implies, forall_const, not_true_eq_false, not_false_eq_true, false_implies, and_true, true_and, implies_true, and_self, eq_self]
    exact hN xf xh yf H e (Or.inl ⟨rfl, z⟩)
  · have ne : ¬ nI (S t) = -1 := pl_ne1 (by omega)
    by_cases l : yl t ≤ 0
    · simp (disch := omega) only [wpX_clearTheWay, e, ne, el, l, pl_cc, pl_vc, pl_le8, pl_le32, pl_lt64, pl_lt1, pl_lt8, pl_lt32, nI_pos, nI_pos', vp_in_nI, nI_clamp, nI_1, nI_leI, nI_ltI, nI_eq, forall_eq, true_implies, forall_const, not_true_eq_false, not_false_eq_true, false_implies, and_true, true_and, implies_true, and_self, eq_self]
      refine px_roll (by omega) (by omega) ?_
      exact hN _ _ _ (pl_roll H lt f2) (pl_eh_i hr e) (Or.inr ⟨t, lt, f2, g2, l, e, z, rfl⟩)
    · simp (disch := omega) only [wpX_clearTheWay, e, ne, el, l, pl_cc, pl_vc, pl_le8, pl_le32, pl_lt64, pl_lt1, pl_lt8, pl_lt32, nI_pos, nI_pos', vp_in_nI, nI_clamp, nI_1, nI_leI, nI_ltI, nI_eq, forall_eq, true_implies, forall_const, not_true_eq_false, not_false_eq_true, false_implies, and_true, true_and, implies_true, and_self, eq_self]
      exact hL t lt f2 g2 l e z
theorem i_vc_read {k : Nat} {u : SX} {v : SY} (I : i_Rel k u v) (hk : k + 4 ≤ 2052) (v1 : Int32) (v2 : Int32) : wpX_read (fun r u' => wpY_read (fun r' v' => r' = r ∧ i_Rel (k + 4) u' v') v v1 v2) u v1 v2 := by
  obtain ⟨nc, nr, nl, nt, ck, bg, S, P, M, ph, xs, xp, xq, xg, xv, xf, xl, xc, xh, xw, xz, ym, yf, ys, yp, yq, yl, yg, yv, rfl, rfl, H⟩ := I
  have hb := pl_b H
  rcases pl_ix v1 (n := nc) (by omega) with h | ⟨h, h', h''⟩ | ⟨c, hc, rfl⟩
  · simp (disch := omega) only [wpX_read, wpX_isClient, wpY_read, wpY_badClient, h, pl_nq, pl_cc, pl_vc, pl_le8, pl_le32, pl_lt64, pl_lt1, pl_lt8, pl_lt32, nI_pos, nI_pos', vp_in_nI, nI_clamp, nI_1, nI_leI, nI_ltI, nI_eq, forall_eq, true_implies, forall_const, not_true_eq_false, not_false_eq_true, false_implies, and_true, true_and, implies_true, and_self, eq_self]
    exact pl_mk H
  · simp (disch := omega) only [wpX_read, wpX_isClient, wpY_read, wpY_badClient, h, h', h'', pl_nq, pl_cc, pl_vc, pl_le8, pl_le32, pl_lt64, pl_lt1, pl_lt8, pl_lt32, nI_pos, nI_pos', vp_in_nI, nI_clamp, nI_1, nI_leI, nI_ltI, nI_eq, forall_eq, true_implies, forall_const, not_true_eq_false, not_false_eq_true, false_implies, and_true, true_and, implies_true, and_self, eq_self]
    exact pl_mk H
  · have hc' : ¬ nc ≤ c := by omega
    rcases pl_ix v2 (n := nr) (by omega) with h | ⟨h, h', h''⟩ | ⟨r, hr, rfl⟩
    · simp (disch := omega) only [wpX_read, wpX_isClient, wpX_isRow, wpY_read, wpY_badClient, wpY_badRow, hc, hc', h, pl_nq, pl_cc, pl_vc, pl_le8, pl_le32, pl_lt64, pl_lt1, pl_lt8, pl_lt32, nI_pos, nI_pos', vp_in_nI, nI_clamp, nI_1, nI_leI, nI_ltI, nI_eq, forall_eq, true_implies, forall_const, not_true_eq_false, not_false_eq_true, false_implies, and_true, true_and, implies_true, and_self, eq_self]
      exact pl_mk H
    · simp (disch := omega) only [wpX_read, wpX_isClient, wpX_isRow, wpY_read, wpY_badClient, wpY_badRow, hc, hc', h, h', h'', pl_nq, pl_cc, pl_vc, pl_le8, pl_le32, pl_lt64, pl_lt1, pl_lt8, pl_lt32, nI_pos, nI_pos', vp_in_nI, nI_clamp, nI_1, nI_leI, nI_ltI, nI_eq, forall_eq, true_implies, forall_const, not_true_eq_false, not_false_eq_true, false_implies, and_true, true_and, implies_true, and_self, eq_self]
      exact pl_mk H
    · have hr' : ¬ nr ≤ r := by omega
      rcases pl_cl H (c := c) (by omega) with ⟨m0, p0, _⟩ | ⟨t, m1, lt, p0, em, es, et, l1, l2, ef, ok, eq, eq', eg, _⟩
      · simp (disch := omega) only [wpX_read, wpX_isClient, wpX_isRow, wpY_read, wpY_badClient, wpY_badRow, hc, hc', hr, hr', p0, pl_nq, pl_cc, pl_vc, pl_le8, pl_le32, pl_lt64, pl_lt1, pl_lt8, pl_lt32, nI_pos, nI_pos', vp_in_nI, nI_clamp, nI_1, nI_leI, nI_ltI, nI_eq, forall_eq, true_implies, forall_const, not_true_eq_false, not_false_eq_true, false_implies, and_true, true_and, implies_true, and_self, eq_self]
        exact pl_mk H
      · -- the value, once the way is clear
        have tail : ∀ xf' xh' yf', pl_R nc nr nl nt ck bg S P M ph xs xp xq xg xv xf' xl xc xh' xw xz ym yf' ys yp yq yl yg yv → (∀ post : Int32 → SY → Prop, wY_read_87 post (nI r) (nI (S t)) (nI nc) (nI nr) (nI nl) (nI nt) (nI ck) (nI bg) ph ym yf' ys yp yq yl yg yv → wpY_read post (nI nc, nI nr, nI nl, nI nt, nI ck, nI bg, ph, ym, yf, ys, yp, yq, yl, yg, yv) (nI c) (nI r)) →
            wX_read_59 (fun r_1 u' => wpY_read (fun r' v' => r' = r_1 ∧ i_Rel (k + 4) u' v') (nI nc, nI nr, nI nl, nI nt, nI ck, nI bg, ph, ym, yf, ys, yp, yq, yl, yg, yv) (nI c) (nI r)) (nI r) (nI (S t)) (nI nc) (nI nr) (nI nl) (nI nt) (nI ck) (nI bg) ph xs xp xq xg xv xf' xl xc xh' xw xz := by
          intro xf' xh' yf' H' hY
          simp (disch := omega) only [wX_read_59, wpX_valueAt]
          rcases pl_nwb H' (r := r) (by omega) (nI (S t)) (nI (S t)) (fun q => nI q ≤ nI (S t)) (fun _ _ => Iff.rfl) (fun _ _ => Int32.not_lt) with ⟨t2, lt2, f3, k1, k2, ep, ez, kX, kY⟩ | ⟨kX, kY⟩
          · refine kX _ ?_
            have ne : ¬ nI (P t2) = -1 := pl_ne1 (by omega)
            simp (disch := omega) only [wpX_versionCell, ne, pl_cc, pl_vc, pl_le8, pl_le32, pl_lt64, pl_lt1, pl_lt8, pl_lt32, nI_pos, nI_pos', vp_in_nI, nI_clamp, nI_1, nI_leI, nI_ltI, nI_eq, forall_eq, true_implies, forall_const, not_true_eq_false, not_false_eq_true, false_implies, and_true, true_and, implies_true, and_self, eq_self]
            refine hY _ ?_
            simp (disch := omega) only [wY_read_87, wpY_peek, wpY_badRow, hr, pl_cc, pl_vc, pl_le8, pl_le32, pl_lt64, pl_lt1, pl_lt8, pl_lt32, nI_pos, nI_pos', vp_in_nI, nI_clamp, nI_1, nI_leI, nI_ltI, nI_eq, forall_eq, true_implies, forall_const, not_true_eq_false, not_false_eq_true, false_implies, and_true, true_and, implies_true, and_self, eq_self]
            refine kY _ ?_
            simp (disch := omega) only [ez, pl_cc, pl_vc, pl_le8, pl_le32, pl_lt64, pl_lt1, pl_lt8, pl_lt32, nI_pos, nI_pos', vp_in_nI, nI_clamp, nI_1, nI_leI, nI_ltI, nI_eq, forall_eq, true_implies, forall_const, not_true_eq_false, not_false_eq_true, false_implies, and_true, true_and, implies_true, and_self, eq_self]
            exact pl_mk H'
          · refine kX _ ?_
            simp (disch := omega) only [pl_m1, pl_cc, pl_vc, pl_le8, pl_le32, pl_lt64, pl_lt1, pl_lt8, pl_lt32, nI_pos, nI_pos', vp_in_nI, nI_clamp, nI_1, nI_leI, nI_ltI, nI_eq, forall_eq, true_implies, forall_const, not_true_eq_false, not_false_eq_true, false_implies, and_true, true_and, implies_true, and_self, eq_self]
            refine hY _ ?_
            simp (disch := omega) only [wY_read_87, wpY_peek, wpY_badRow, hr, pl_cc, pl_vc, pl_le8, pl_le32, pl_lt64, pl_lt1, pl_lt8, pl_lt32, nI_pos, nI_pos', vp_in_nI, nI_clamp, nI_1, nI_leI, nI_ltI, nI_eq, forall_eq, true_implies, forall_const, not_true_eq_false, not_false_eq_true, false_implies, and_true, true_and, implies_true, and_self, eq_self]
            refine kY _ ?_
            simp (disch := omega) only [pl_m1, pl_cc, pl_vc, pl_le8, pl_le32, pl_lt64, pl_lt1, pl_lt8, pl_lt32, nI_pos, nI_pos', vp_in_nI, nI_clamp, nI_1, nI_leI, nI_ltI, nI_eq, forall_eq, true_implies, forall_const, not_true_eq_false, not_false_eq_true, false_implies, and_true, true_and, implies_true, and_self, eq_self]
            exact pl_mk H'
        rcases pl_hd H hr with ⟨e, z⟩ | ⟨t1, lt1, f2, g2, e, et1, l11, l12, el, z⟩
        · have q : ¬ nI (S t) ≤ -1 := Int32.not_le.mpr (Int32.lt_of_lt_of_le (by decide : (-1 : Int32) < 0) (nI_pos' (by omega)))
          simp (disch := omega) only [wpX_read, wpX_isClient, wpX_isRow, hc, hc', hr, hr', p0, es, e, q, pl_nq, pl_cc, pl_vc, pl_le8, pl_le32, pl_lt64, pl_lt1, pl_lt8, pl_lt32, nI_pos, nI_pos', vp_in_nI, nI_clamp, nI_1, nI_leI, nI_ltI, nI_eq, forall_eq, true_implies, forall_const, not_true_eq_false, not_false_eq_true, false_implies, and_true, true_and, implies_true, and_self, eq_self]
          refine px_clear H hr (fun t' a b d _ _ _ => absurd d (z t' (by omega) b)) ?_
          intro xf' xh' yf' H' hh lk
          simp (disch := omega) only [pl_nq, pl_cc, pl_vc, pl_le8, pl_le32, pl_lt64, pl_lt1, pl_lt8, pl_lt32, nI_pos, nI_pos', vp_in_nI, nI_clamp, nI_1, nI_leI, nI_ltI, nI_eq, forall_eq, true_implies, forall_const, not_true_eq_false, not_false_eq_true, false_implies, and_true, true_and, implies_true, and_self, eq_self]
          refine tail xf' xh' yf' H' (fun post hp => ?_)
          rcases lk with ⟨e', _⟩ | ⟨t', a, b, d, _⟩
          · subst e'
            simp (disch := omega) only [wpY_read, wpY_badClient, wpY_badRow, hc, hc', hr, hr', p0, em, et, pl_nq, pl_cc, pl_vc, pl_le8, pl_le32, pl_lt64, pl_lt1, pl_lt8, pl_lt32, nI_pos, nI_pos', vp_in_nI, nI_clamp, nI_1, nI_leI, nI_ltI, nI_eq, forall_eq, true_implies, forall_const, not_true_eq_false, not_false_eq_true, false_implies, and_true, true_and, implies_true, and_self, eq_self]
            refine py_ho (by omega) (fun t' a b d => absurd d (z t' a b)) (fun _ => ?_)
            simp (disch := omega) only [pl_m1, pl_cc, pl_vc, pl_le8, pl_le32, pl_lt64, pl_lt1, pl_lt8, pl_lt32, nI_pos, nI_pos', vp_in_nI, nI_clamp, nI_1, nI_leI, nI_ltI, nI_eq, forall_eq, true_implies, forall_const, not_true_eq_false, not_false_eq_true, false_implies, and_true, true_and, implies_true, and_self, eq_self]
            exact hp
          · exact absurd d (z t' (by omega) b)
        · by_cases q : S t ≤ S t1
          · simp (disch := omega) only [wpX_read, wpX_isClient, wpX_isRow, hc, hc', hr, hr', p0, es, e, q, pl_nq, pl_cc, pl_vc, pl_le8, pl_le32, pl_lt64, pl_lt1, pl_lt8, pl_lt32, nI_pos, nI_pos', vp_in_nI, nI_clamp, nI_1, nI_leI, nI_ltI, nI_eq, forall_eq, true_implies, forall_const, not_true_eq_false, not_false_eq_true, false_implies, and_true, true_and, implies_true, and_self, eq_self]
            refine tail xf xh yf H (fun post hp => ?_)
            simp (disch := omega) only [wpY_read, wpY_badClient, wpY_badRow, hc, hc', hr, hr', p0, em, et, pl_nq, pl_cc, pl_vc, pl_le8, pl_le32, pl_lt64, pl_lt1, pl_lt8, pl_lt32, nI_pos, nI_pos', vp_in_nI, nI_clamp, nI_1, nI_leI, nI_ltI, nI_eq, forall_eq, true_implies, forall_const, not_true_eq_false, not_false_eq_true, false_implies, and_true, true_and, implies_true, and_self, eq_self]
            refine py_ho (by omega) (fun t' a b d => ?_) (fun z' => absurd g2 (z' t1 (by omega) f2))
            have n := z t' a b d
            subst n
            simp (disch := omega) only [et1, q, pl_cc, pl_vc, pl_le8, pl_le32, pl_lt64, pl_lt1, pl_lt8, pl_lt32, nI_pos, nI_pos', vp_in_nI, nI_clamp, nI_1, nI_leI, nI_ltI, nI_eq, forall_eq, true_implies, forall_const, not_true_eq_false, not_false_eq_true, false_implies, and_true, true_and, implies_true, and_self, eq_self]
            exact hp
          · simp (disch := omega) only [wpX_read, wpX_isClient, wpX_isRow, hc, hc', hr, hr', p0, es, e, q, pl_nq, pl_cc, pl_vc, pl_le8, pl_le32, pl_lt64, pl_lt1, pl_lt8, pl_lt32, nI_pos, nI_pos', vp_in_nI, nI_clamp, nI_1, nI_leI, nI_ltI, nI_eq, forall_eq, true_implies, forall_const, not_true_eq_false, not_false_eq_true, false_implies, and_true, true_and, implies_true, and_self, eq_self]
            refine px_clear H hr (fun t' a b d m e' z' => ?_) ?_
            · simp (disch := omega) only [wpY_read, wpY_badClient, wpY_badRow, hc, hc', hr, hr', p0, em, et, pl_nq, pl_cc, pl_vc, pl_le8, pl_le32, pl_lt64, pl_lt1, pl_lt8, pl_lt32, nI_pos, nI_pos', vp_in_nI, nI_clamp, nI_1, nI_leI, nI_ltI, nI_eq, forall_eq, true_implies, forall_const, not_true_eq_false, not_false_eq_true, false_implies, and_true, true_and, implies_true, and_self, eq_self]
              refine py_ho (by omega) (fun t2 a2 b2 d2 => ?_) (fun z2 => absurd g2 (z2 t1 (by omega) f2))
              have n := z t2 a2 b2 d2
              subst n
              have n := z' t2 a2 b2 d2
              subst n
              simp (disch := omega) only [et1, q, m, pl_cc, pl_vc, pl_le8, pl_le32, pl_lt64, pl_lt1, pl_lt8, pl_lt32, nI_pos, nI_pos', vp_in_nI, nI_clamp, nI_1, nI_leI, nI_ltI, nI_eq, forall_eq, true_implies, forall_const, not_true_eq_false, not_false_eq_true, false_implies, and_true, true_and, implies_true, and_self, eq_self]
              exact pl_mk H
            · intro xf' xh' yf' H' hh lk
              simp (disch := omega) only [pl_nq, pl_cc, pl_vc, pl_le8, pl_le32, pl_lt64, pl_lt1, pl_lt8, pl_lt32, nI_pos, nI_pos', vp_in_nI, nI_clamp, nI_1, nI_leI, nI_ltI, nI_eq, forall_eq, true_implies, forall_const, not_true_eq_false, not_false_eq_true, false_implies, and_true, true_and, implies_true, and_self, eq_self]
              refine tail xf' xh' yf' H' (fun post hp => ?_)
              rcases lk with ⟨_, z2⟩ | ⟨t', a, b, d, m, _, z2, e2⟩
              · exact absurd g2 (z2 t1 (by omega) f2)
              · subst e2
                simp (disch := omega) only [wpY_read, wpY_badClient, wpY_badRow, hc, hc', hr, hr', p0, em, et, pl_nq, pl_cc, pl_vc, pl_le8, pl_le32, pl_lt64, pl_lt1, pl_lt8, pl_lt32, nI_pos, nI_pos', vp_in_nI, nI_clamp, nI_1, nI_leI, nI_ltI, nI_eq, forall_eq, true_implies, forall_const, not_true_eq_false, not_false_eq_true, false_implies, and_true, true_and, implies_true, and_self, eq_self]
                refine py_ho (by omega) (fun t2 a2 b2 d2 => ?_) (fun z2 => absurd g2 (z2 t1 (by omega) f2))
                have n := z t2 a2 b2 d2
                subst n
                have n := z2 t2 a2 b2 d2
                subst n
                simp (disch := omega) only [et1, q, m, pl_cc, pl_vc, pl_le8, pl_le32, pl_lt64, pl_lt1, pl_lt8, pl_lt32, nI_pos, nI_pos', vp_in_nI, nI_clamp, nI_1, nI_leI, nI_ltI, nI_eq, forall_eq, true_implies, forall_const, not_true_eq_false, not_false_eq_true, false_implies, and_true, true_and, implies_true, and_self, eq_self]
                exact hp
end PLL
end
section
section PLM
variable {nc nr nl nt ck bg : Nat} {S P M : Nat → Nat} {ph xs xp xq xg xv xf xl xc xh xw xz ym yf ys yp yq yl yg yv : Nat → Int32}
theorem pl_big {q : Nat} (h : q ≤ 64) : ¬ (2147483647 : Int32) < nI q := nI_nlt (a := 2147483647) (by omega) (by decide)
theorem pl_s64 {q : Nat} (h : q ≤ 64) : nI q ≤ (64 : Int32) := nI_le (b := 64) h (by decide)
/-- the reference's way to its second half -/
theorem py_pw (H : pl_R nc nr nl nt ck bg S P M ph xs xp xq xg xv xf xl xc xh xw xz ym yf ys yp yq yl yg yv) {c t r : Nat} {yf' : Nat → Int32} (hc : c < nc) (hr : r < nr) (lt : t < bg) (em : ym c = nI t) (p0 : ¬ ph c = 0) (p3 : ¬ ph c = 3) (p4 : ¬ ph c = 4) (g0 : ¬ yg (t * 8 + r) = 0) (g2 : ¬ yg (t * 8 + r) = 2) (lk : pl_lk bg r S xh yf yl yg yf') {post : Int32 → SY → Prop}
    (hp : wY_prewrite_129 post (nI c) (nI r) (nI t) (nI (t * 8 + r)) (nI nc) (nI nr) (nI nl) (nI nt) (nI ck) (nI bg) ph ym yf' ys yp yq yl yg yv) : wpY_prewrite post (nI nc, nI nr, nI nl, nI nt, nI ck, nI bg, ph, ym, yf, ys, yp, yq, yl, yg, yv) (nI c) (nI r) := by
  have hb := pl_b H
  have hc' : ¬ nc ≤ c := by omega
  have hr' : ¬ nr ≤ r := by omega
  simp (disch := omega) only [wpY_prewrite, wpY_badClient, wpY_badRow, hc, hc', hr, hr', p0, p3, p4, em, g0, g2, pl_nq, pl_cc, pl_vc, pl_le8, pl_le32, pl_lt64, pl_lt1, pl_lt8, pl_lt32, nI_pos, nI_pos', vp_in_nI, nI_clamp, nI_1, nI_leI, nI_ltI, nI_eq, forall_eq, true_implies, forall_const, not_true_eq_false, not_false_eq_true, false_implies, and_true, true_and, implies_true, and_self, eq_self]
  rcases lk with ⟨e, z⟩ | ⟨t1, lt1, f2, h2, m, _, z, e⟩
  · subst e
    refine py_ho (by omega) (fun t' a b d => absurd d (z t' a b)) (fun _ => ?_)
    simp (disch := omega) only [pl_m1, pl_cc, pl_vc, pl_le8, pl_le32, pl_lt64, pl_lt1, pl_lt8, pl_lt32, nI_pos, nI_pos', vp_in_nI, nI_clamp, nI_1, nI_leI, nI_ltI, nI_eq, forall_eq, true_implies, forall_const, not_true_eq_false, not_false_eq_true, false_implies, and_true, true_and, implies_true, and_self, eq_self]
    exact hp
  · subst e
    refine py_ho (by omega) (fun t2 a2 b2 d2 => ?_) (fun z2 => absurd h2 (z2 t1 (by omega) f2))
    have n := z t2 a2 b2 d2
    subst n
    simp (disch := omega) only [m, pl_cc, pl_vc, pl_le8, pl_le32, pl_lt64, pl_lt1, pl_lt8, pl_lt32, nI_pos, nI_pos', vp_in_nI, nI_clamp, nI_1, nI_leI, nI_ltI, nI_eq, forall_eq, true_implies, forall_const, not_true_eq_false, not_false_eq_true, false_implies, and_true, true_and, implies_true, and_self, eq_self]
    exact hp
theorem i_vc_prewrite {k : Nat} {u : SX} {v : SY} (I : i_Rel k u v) (hk : k + 4 ≤ 2052) (v1 : Int32) (v2 : Int32) : wpX_prewrite (fun r u' => wpY_prewrite (fun r' v' => r' = r ∧ i_Rel (k + 4) u' v') v v1 v2) u v1 v2 := by
  obtain ⟨nc, nr, nl, nt, ck, bg, S, P, M, ph, xs, xp, xq, xg, xv, xf, xl, xc, xh, xw, xz, ym, yf, ys, yp, yq, yl, yg, yv, rfl, rfl, H⟩ := I
  have hb := pl_b H
  rcases pl_ix v1 (n := nc) (by omega) with h | ⟨h, h', h''⟩ | ⟨c, hc, rfl⟩
  · simp (disch := omega) only [wpX_prewrite, wpX_isClient, wpY_prewrite, wpY_badClient, h, pl_nq, pl_cc, pl_vc, pl_le8, pl_le32, pl_lt64, pl_lt1, pl_lt8, pl_lt32, nI_pos, nI_pos', vp_in_nI, nI_clamp, nI_1, nI_leI, nI_ltI, nI_eq, forall_eq, true_implies, forall_const, not_true_eq_false, not_false_eq_true, false_implies, and_true, true_and, implies_true, and_self, eq_self]
    exact pl_mk H
  · simp (disch := omega) only [wpX_prewrite, wpX_isClient, wpY_prewrite, wpY_badClient, h, h', h'', pl_nq, pl_cc, pl_vc, pl_le8, pl_le32, pl_lt64, pl_lt1, pl_lt8, pl_lt32, nI_pos, nI_pos', vp_in_nI, nI_clamp, nI_1, nI_leI, nI_ltI, nI_eq, forall_eq, true_implies, forall_const, not_true_eq_false, not_false_eq_true, false_implies, and_true, true_and, implies_true, and_self, eq_self]
    exact pl_mk H
  · have hc' : ¬ nc ≤ c := by omega
    rcases pl_ix v2 (n := nr) (by omega) with h | ⟨h, h', h''⟩ | ⟨r, hr, rfl⟩
    · simp (disch := omega) only [wpX_prewrite, wpX_isClient, wpX_isRow, wpY_prewrite, wpY_badClient, wpY_badRow, hc, hc', h, pl_nq, pl_cc, pl_vc, pl_le8, pl_le32, pl_lt64, pl_lt1, pl_lt8, pl_lt32, nI_pos, nI_pos', vp_in_nI, nI_clamp, nI_1, nI_leI, nI_ltI, nI_eq, forall_eq, true_implies, forall_const, not_true_eq_false, not_false_eq_true, false_implies, and_true, true_and, implies_true, and_self, eq_self]
      exact pl_mk H
    · simp (disch := omega) only [wpX_prewrite, wpX_isClient, wpX_isRow, wpY_prewrite, wpY_badClient, wpY_badRow, hc, hc', h, h', h'', pl_nq, pl_cc, pl_vc, pl_le8, pl_le32, pl_lt64, pl_lt1, pl_lt8, pl_lt32, nI_pos, nI_pos', vp_in_nI, nI_clamp, nI_1, nI_leI, nI_ltI, nI_eq, forall_eq, true_implies, forall_const, not_true_eq_false, not_false_eq_true, false_implies, and_true, true_and, implies_true, and_self, eq_self]
      exact pl_mk H
    · have hr' : ¬ nr ≤ r := by omega
      rcases pl_cl H (c := c) (by omega) with ⟨m0, p0, _⟩ | ⟨t, m1, lt, p0, em, es, et, l1, l2, ef, ok, eq, eq', eg, _⟩
      · simp (disch := omega) only [wpX_prewrite, wpX_isClient, wpX_isRow, wpY_prewrite, wpY_badClient, wpY_badRow, hc, hc', hr, hr', p0, pl_nq, pl_cc, pl_vc, pl_le8, pl_le32, pl_lt64, pl_lt1, pl_lt8, pl_lt32, nI_pos, nI_pos', vp_in_nI, nI_clamp, nI_1, nI_leI, nI_ltI, nI_eq, forall_eq, true_implies, forall_const, not_true_eq_false, not_false_eq_true, false_implies, and_true, true_and, implies_true, and_self, eq_self]
        exact pl_mk H
      · by_cases p3 : ph c = 3
        · simp (disch := omega) only [wpX_prewrite, wpX_isClient, wpX_isRow, wpY_prewrite, wpY_badClient, wpY_badRow, hc, hc', hr, hr', p3, pl_nq, pl_cc, pl_vc, pl_le8, pl_le32, pl_lt64, pl_lt1, pl_lt8, pl_lt32, nI_pos, nI_pos', vp_in_nI, nI_clamp, nI_1, nI_leI, nI_ltI, nI_eq, forall_eq, true_implies, forall_const, not_true_eq_false, not_false_eq_true, false_implies, and_true, true_and, implies_true, and_self, eq_self]
          exact pl_mk H
        · by_cases p4 : ph c = 4
          · simp (disch := omega) only [wpX_prewrite, wpX_isClient, wpX_isRow, wpY_prewrite, wpY_badClient, wpY_badRow, hc, hc', hr, hr', p4, pl_nq, pl_cc, pl_vc, pl_le8, pl_le32, pl_lt64, pl_lt1, pl_lt8, pl_lt32, nI_pos, nI_pos', vp_in_nI, nI_clamp, nI_1, nI_leI, nI_ltI, nI_eq, forall_eq, true_implies, forall_const, not_true_eq_false, not_false_eq_true, false_implies, and_true, true_and, implies_true, and_self, eq_self]
            exact pl_mk H
          · have e0 := (eg r (by omega)).1
            by_cases g0 : yg (t * 8 + r) = 0
            · simp (disch := omega) only [wpX_prewrite, wpX_isClient, wpX_isRow, wpX_clientCell, wpY_prewrite, wpY_badClient, wpY_badRow, hc, hc', hr, hr', p0, p3, p4, em, e0, g0, pl_nq, pl_cc, pl_vc, pl_le8, pl_le32, pl_lt64, pl_lt1, pl_lt8, pl_lt32, nI_pos, nI_pos', vp_in_nI, nI_clamp, nI_1, nI_leI, nI_ltI, nI_eq, forall_eq, true_implies, forall_const, not_true_eq_false, not_false_eq_true, false_implies, and_true, true_and, implies_true, and_self, eq_self]
              exact pl_mk H
            · by_cases g2 : yg (t * 8 + r) = 2
              · simp (disch := omega) only [wpX_prewrite, wpX_isClient, wpX_isRow, wpX_clientCell, wpY_prewrite, wpY_badClient, wpY_badRow, hc, hc', hr, hr', p0, p3, p4, em, e0, g2, pl_nq, pl_cc, pl_vc, pl_le8, pl_le32, pl_lt64, pl_lt1, pl_lt8, pl_lt32, nI_pos, nI_pos', vp_in_nI, nI_clamp, nI_1, nI_leI, nI_ltI, nI_eq, forall_eq, true_implies, forall_const, not_true_eq_false, not_false_eq_true, false_implies, and_true, true_and, implies_true, and_self, eq_self]
                exact pl_mk H
              · simp (disch := omega) only [wpX_prewrite, wpX_isClient, wpX_isRow, wpX_clientCell, hc, hc', hr, hr', p0, p3, p4, e0, g0, g2, pl_nq, pl_cc, pl_vc, pl_le8, pl_le32, pl_lt64, pl_lt1, pl_lt8, pl_lt32, nI_pos, nI_pos', vp_in_nI, nI_clamp, nI_1, nI_leI, nI_ltI, nI_eq, forall_eq, true_implies, forall_const, not_true_eq_false, not_false_eq_true, false_implies, and_true, true_and, implies_true, and_self, eq_self]
                refine px_clear H hr (fun t1 lt1 f1 h1 m e1 z => ?_) ?_
                · simp (disch := omega) only [wpY_prewrite, wpY_badClient, wpY_badRow, hc, hc', hr, hr', p0, p3, p4, em, g0, g2, pl_nq, pl_cc, pl_vc, pl_le8, pl_le32, pl_lt64, pl_lt1, pl_lt8, pl_lt32, nI_pos, nI_pos', vp_in_nI, nI_clamp, nI_1, nI_leI, nI_ltI, nI_eq, forall_eq, true_implies, forall_const, not_true_eq_false, not_false_eq_true, false_implies, and_true, true_and, implies_true, and_self, eq_self]
                  refine py_ho (by omega) (fun t2 a2 b2 d2 => ?_) (fun z2 => absurd h1 (z2 t1 (by omega) f1))
                  have n := z t2 a2 b2 d2
                  subst n
                  simp (disch := omega) only [m, pl_cc, pl_vc, pl_le8, pl_le32, pl_lt64, pl_lt1, pl_lt8, pl_lt32, nI_pos, nI_pos', vp_in_nI, nI_clamp, nI_1, nI_leI, nI_ltI, nI_eq, forall_eq, true_implies, forall_const, not_true_eq_false, not_false_eq_true, false_implies, and_true, true_and, implies_true, and_self, eq_self]
                  exact pl_mk H
                · intro xf' xh' yf' H' hh lk
                  simp (disch := omega) only [es, pl_nq, pl_cc, pl_vc, pl_le8, pl_le32, pl_lt64, pl_lt1, pl_lt8, pl_lt32, nI_pos, nI_pos', vp_in_nI, nI_clamp, nI_1, nI_leI, nI_ltI, nI_eq, forall_eq, true_implies, forall_const, not_true_eq_false, not_false_eq_true, false_implies, and_true, true_and, implies_true, and_self, eq_self]
                  have pw := fun (post : Int32 → SY → Prop) (hp : wY_prewrite_129 post (nI c) (nI r) (nI t) (nI (t * 8 + r)) (nI nc) (nI nr) (nI nl) (nI nt) (nI ck) (nI bg) ph ym yf' ys yp yq yl yg yv) => py_pw H hc hr lt em p0 p3 p4 g0 g2 lk hp
                  have ef' : xf' (S t) = yf' t := H'.2.2.2.2.2.2.2.2.2.2.2.2.2.1 t lt
                  -- the last part, where no newer version stands
                  have fin : ∀ (q : Int32) (Y : ∀ post : Int32 → SY → Prop, wY_prewrite_162 post (nI c) (nI r) (nI t) (nI (t * 8 + r)) (nI nc) (nI nr) (nI nl) (nI nt) (nI ck) (nI bg) ph ym yf' ys yp yq yl yg yv → wpY_prewrite post (nI nc, nI nr, nI nl, nI nt, nI ck, nI bg, ph, ym, yf, ys, yp, yq, yl, yg, yv) (nI c) (nI r)),
                      (ph c = 1 → wX_prewrite_138 (fun r_1 u' => wpY_prewrite (fun r' v' => r' = r_1 ∧ i_Rel (k + 4) u' v') (nI nc, nI nr, nI nl, nI nt, nI ck, nI bg, ph, ym, yf, ys, yp, yq, yl, yg, yv) (nI c) (nI r)) (nI c) (nI r) (nI nc) (nI nr) (nI nl) (nI nt) (nI ck) (nI bg) (upd ph c 2) xs xp (upd xq c (nI r)) (upd xg (c * 8 + r) 2) xv (upd xf' (S t) 2) (upd xl (S t) (nI nl)) xc xh' xw xz) ∧
                      (¬ ph c = 1 → wX_prewrite_138 (fun r_1 u' => wpY_prewrite (fun r' v' => r' = r_1 ∧ i_Rel (k + 4) u' v') (nI nc, nI nr, nI nl, nI nt, nI ck, nI bg, ph, ym, yf, ys, yp, yq, yl, yg, yv) (nI c) (nI r)) (nI c) (nI r) (nI nc) (nI nr) (nI nl) (nI nt) (nI ck) (nI bg) ph xs xp xq (upd xg (c * 8 + r) 2) xv xf' xl xc xh' xw xz) := by
                    intro q Y
                    refine br_c (fun p1 => ?_) (fun p1 => ?_)
                    · simp (disch := omega) only [wX_prewrite_138, es, pl_us, pl_cc, pl_vc, pl_le8, pl_le32, pl_lt64, pl_lt1, pl_lt8, pl_lt32, nI_pos, nI_pos', vp_in_nI, nI_clamp, nI_1, nI_leI, nI_ltI, nI_eq, forall_eq, true_implies, forall_const, not_true_eq_false, not_false_eq_true, false_implies, and_true, true_and, implies_true, and_self, eq_self]
                      refine Y _ ?_
                      simp (disch := omega) only [wY_prewrite_162, p1, pl_cc, pl_vc, pl_le8, pl_le32, pl_lt64, pl_lt1, pl_lt8, pl_lt32, nI_pos, nI_pos', vp_in_nI, nI_clamp, nI_1, nI_leI, nI_ltI, nI_eq, forall_eq, true_implies, forall_const, not_true_eq_false, not_false_eq_true, false_implies, and_true, true_and, implies_true, and_self, eq_self]
                      exact pl_mk (pl_hold (pl_pend H' (by omega) m1 p1 hr) (by omega) m1 pl_us pl_us hr hh g0)
                    · have p2 : ph c = 2 := by
                        unfold pl_ok at ok
                        rcases ok with z | z | z | z
                        · exact absurd z.1 p1
                        · exact z.1
                        · exact absurd z.1 p3
                        · exact absurd z.1 p4
                      by_cases f2 : yf' t = 2
                      · simp (disch := omega) only [wX_prewrite_138, es, ef', f2, pl_cc, pl_vc, pl_le8, pl_le32, pl_lt64, pl_lt1, pl_lt8, pl_lt32, nI_pos, nI_pos', vp_in_nI, nI_clamp, nI_1, nI_leI, nI_ltI, nI_eq, forall_eq, true_implies, forall_const, not_true_eq_false, not_false_eq_true, false_implies, and_true, true_and, implies_true, and_self, eq_self]
                        refine Y _ ?_
                        simp (disch := omega) only [wY_prewrite_162, p1, pl_cc, pl_vc, pl_le8, pl_le32, pl_lt64, pl_lt1, pl_lt8, pl_lt32, nI_pos, nI_pos', vp_in_nI, nI_clamp, nI_1, nI_leI, nI_ltI, nI_eq, forall_eq, true_implies, forall_const, not_true_eq_false, not_false_eq_true, false_implies, and_true, true_and, implies_true, and_self, eq_self]
                        exact pl_mk (pl_hold H' (by omega) m1 p2 f2 hr hh g0)
                      · simp (disch := omega) only [wX_prewrite_138, es, ef', f2, pl_cc, pl_vc, pl_le8, pl_le32, pl_lt64, pl_lt1, pl_lt8, pl_lt32, nI_pos, nI_pos', vp_in_nI, nI_clamp, nI_1, nI_leI, nI_ltI, nI_eq, forall_eq, true_implies, forall_const, not_true_eq_false, not_false_eq_true, false_implies, and_true, true_and, implies_true, and_self, eq_self]
                        refine Y _ ?_
                        simp (disch := omega) only [wY_prewrite_162, p1, pl_cc, pl_vc, pl_le8, pl_le32, pl_lt64, pl_lt1, pl_lt8, pl_lt32, nI_pos, nI_pos', vp_in_nI, nI_clamp, nI_1, nI_leI, nI_ltI, nI_eq, forall_eq, true_implies, forall_const, not_true_eq_false, not_false_eq_true, false_implies, and_true, true_and, implies_true, and_self, eq_self]
                        exact pl_mk (pl_stg H' (by omega) m1 p1 f2 hr g0 (by decide))
                  rcases pl_nwb H' (r := r) (by omega) 64 2147483647 (fun _ => True) (fun q l => ⟨fun _ => trivial, fun _ => pl_s64 l⟩) (fun q l => ⟨fun _ => trivial, fun _ => pl_big l⟩) with ⟨t2, lt2, f3, k1, k2, ep, ez, kX, kY⟩ | ⟨kX, kY⟩
                  · refine kX _ ?_
                    by_cases le : P t2 ≤ S t
                    · simp (disch := omega) only [wpX_makePending, es, le, pl_cc, pl_vc, pl_le8, pl_le32, pl_lt64, pl_lt1, pl_lt8, pl_lt32, nI_pos, nI_pos', vp_in_nI, nI_clamp, nI_1, nI_leI, nI_ltI, nI_eq, forall_eq, true_implies, forall_const, not_true_eq_false, not_false_eq_true, false_implies, and_true, true_and, implies_true, and_self, eq_self]
                      refine fin 0 (fun post hp => pw post ?_)
                      unfold wY_prewrite_129
                      refine kY _ ?_
                      simp (disch := omega) only [ep, et, le, pl_cc, pl_vc, pl_le8, pl_le32, pl_lt64, pl_lt1, pl_lt8, pl_lt32, nI_pos, nI_pos', vp_in_nI, nI_clamp, nI_1, nI_leI, nI_ltI, nI_eq, forall_eq, true_implies, forall_const, not_true_eq_false, not_false_eq_true, false_implies, and_true, true_and, implies_true, and_self, eq_self]
                      exact hp
                    · simp (disch := omega) only [le, pl_cc, pl_vc, pl_le8, pl_le32, pl_lt64, pl_lt1, pl_lt8, pl_lt32, nI_pos, nI_pos', vp_in_nI, nI_clamp, nI_1, nI_leI, nI_ltI, nI_eq, forall_eq, true_implies, forall_const, not_true_eq_false, not_false_eq_true, false_implies, and_true, true_and, implies_true, and_self, eq_self]
                      refine pw _ ?_
                      unfold wY_prewrite_129
                      refine kY _ ?_
                      simp (disch := omega) only [ep, et, le, pl_cc, pl_vc, pl_le8, pl_le32, pl_lt64, pl_lt1, pl_lt8, pl_lt32, nI_pos, nI_pos', vp_in_nI, nI_clamp, nI_1, nI_leI, nI_ltI, nI_eq, forall_eq, true_implies, forall_const, not_true_eq_false, not_false_eq_true, false_implies, and_true, true_and, implies_true, and_self, eq_self]
                      exact pl_mk H'
                  · refine kX _ ?_
                    have le : (-1 : Int32) ≤ nI (S t) := Int32.le_trans (by decide : (-1 : Int32) ≤ 0) (nI_pos' (by omega))
                    simp (disch := omega) only [wpX_makePending, es, le, pl_cc, pl_vc, pl_le8, pl_le32, pl_lt64, pl_lt1, pl_lt8, pl_lt32, nI_pos, nI_pos', vp_in_nI, nI_clamp, nI_1, nI_leI, nI_ltI, nI_eq, forall_eq, true_implies, forall_const, not_true_eq_false, not_false_eq_true, false_implies, and_true, true_and, implies_true, and_self, eq_self]
                    refine fin 0 (fun post hp => pw post ?_)
                    unfold wY_prewrite_129
                    refine kY _ ?_
                    simp (disch := omega) only [pl_m1, pl_cc, pl_vc, pl_le8, pl_le32, pl_lt64, pl_lt1, pl_lt8, pl_lt32, nI_pos, nI_pos', vp_in_nI, nI_clamp, nI_1, nI_leI, nI_ltI, nI_eq, forall_eq, true_implies, forall_const, not_true_eq_false, not_false_eq_true, false_implies, and_true, true_and, implies_true, and_self, eq_self]
                    exact hp
end PLM
end
section
section PLN
variable {nc nr nl nt ck bg : Nat} {S P M : Nat → Nat} {ph xs xp xq xg xv xf xl xc xh xw xz ym yf ys yp yq yl yg yv : Nat → Int32}
/-! what follows a row's commit, on both sides -/
theorem pc_end (H : pl_R nc nr nl nt ck bg S P M ph xs xp xq xg xv xf xl xc xh xw xz ym yf ys yp yq yl yg yv) {k c t : Nat} (hc : c < nc) (m1 : M c = t + 1) {Y : (Int32 → SY → Prop) → Prop}
    (hY : ∀ post : Int32 → SY → Prop, (∃ n, wY_commit_170 post (nI c) (nI t) (nI nc) (nI nr) (nI nl) (nI nt) (nI ck) (nI bg) ph ym yf ys yp yq yl yg yv n 1 0) → Y post) :
    wX_commit_97 (fun r u' => Y (fun r' v' => r' = r ∧ i_Rel (k + 4) u' v')) (nI c) 0 (nI nc) (nI nr) (nI nl) (nI nt) (nI ck) (nI bg) ph xs xp xq xg xv xf xl xc xh xw xz := by
  have hb := pl_b H
  have lt : t < bg := (H.2.2.2.2.2.2.2.2.2.1 c t (by omega) m1).1
  have eg : ∀ r, r < 8 → xg (c * 8 + r) = yg (t * 8 + r) := fun r hr => (H.2.2.2.2.2.2.2.2.2.2.2.1 c t r (by omega) m1 hr).1
  simp (disch := omega) only [wX_commit_97, pl_cc, pl_vc, pl_le8, pl_le32, pl_lt64, pl_lt1, pl_lt8, pl_lt32, nI_pos, nI_pos', vp_in_nI, nI_clamp, nI_1, nI_leI, nI_ltI, nI_eq, forall_eq, true_implies, forall_const, not_true_eq_false, not_false_eq_true, false_implies, and_true, true_and, implies_true, and_self, eq_self]
  refine px_wc (by omega) (by omega) (fun r lr a b => ?_) (fun hz => ?_)
  · simp (disch := omega) only [pl_cc, pl_vc, pl_le8, pl_le32, pl_lt64, pl_lt1, pl_lt8, pl_lt32, nI_pos, nI_pos', vp_in_nI, nI_clamp, nI_1, nI_leI, nI_ltI, nI_eq, forall_eq, true_implies, forall_const, not_true_eq_false, not_false_eq_true, false_implies, and_true, true_and, implies_true, and_self, eq_self]
    refine hY _ (py_cm (by omega) (by omega) (fun _ _ _ _ => ⟨rfl, pl_mk H⟩) (fun z => ?_))
    rw [eg r (by omega)] at a b
    rcases z r (by omega) with y | y
    · exact absurd y a
    · exact absurd y b
  · simp (disch := omega) only [pl_nq, pl_cc, pl_vc, pl_le8, pl_le32, pl_lt64, pl_lt1, pl_lt8, pl_lt32, nI_pos, nI_pos', vp_in_nI, nI_clamp, nI_1, nI_leI, nI_ltI, nI_eq, forall_eq, true_implies, forall_const, not_true_eq_false, not_false_eq_true, false_implies, and_true, true_and, implies_true, and_self, eq_self]
    refine px_idle (by omega) ?_
    refine hY _ (py_cm (by omega) (by omega) (fun r lr a b => ?_) (fun z => ⟨rfl, pl_mk (pl_idle H (by omega))⟩))
    by_cases l : r < nr
    · rcases hz r l with y | y
      · rw [eg r lr] at y; exact absurd y a
      · rw [eg r lr] at y; exact absurd y b
    · exact absurd (H.2.2.2.2.2.2.1 t r (by omega) (by omega) lr) a
theorem i_vc_commit {k : Nat} {u : SX} {v : SY} (I : i_Rel k u v) (hk : k + 4 ≤ 2052) (v1 : Int32) (v2 : Int32) : wpX_commit (fun r u' => wpY_commit (fun r' v' => r' = r ∧ i_Rel (k + 4) u' v') v v1 v2) u v1 v2 := by
  obtain ⟨nc, nr, nl, nt, ck, bg, S, P, M, ph, xs, xp, xq, xg, xv, xf, xl, xc, xh, xw, xz, ym, yf, ys, yp, yq, yl, yg, yv, rfl, rfl, H⟩ := I
  have hb := pl_b H
  rcases pl_ix v1 (n := nc) (by omega) with h | ⟨h, h', h''⟩ | ⟨c, hc, rfl⟩
  · simp (disch := omega) only [wpX_commit, wpX_isClient, wpY_commit, wpY_badClient, h, pl_nq, pl_cc, pl_vc, pl_le8, pl_le32, pl_lt64, pl_lt1, pl_lt8, pl_lt32, nI_pos, nI_pos', vp_in_nI, nI_clamp, nI_1, nI_leI, nI_ltI, nI_eq, forall_eq, true_implies, forall_const, not_true_eq_false, not_false_eq_true, false_implies, and_true, true_and, implies_true, and_self, eq_self]
    exact pl_mk H
  · simp (disch := omega) only [wpX_commit, wpX_isClient, wpY_commit, wpY_badClient, h, h', h'', pl_nq, pl_cc, pl_vc, pl_le8, pl_le32, pl_lt64, pl_lt1, pl_lt8, pl_lt32, nI_pos, nI_pos', vp_in_nI, nI_clamp, nI_1, nI_leI, nI_ltI, nI_eq, forall_eq, true_implies, forall_const, not_true_eq_false, not_false_eq_true, false_implies, and_true, true_and, implies_true, and_self, eq_self]
    exact pl_mk H
  · have hc' : ¬ nc ≤ c := by omega
    rcases pl_ix v2 (n := nr) (by omega) with h | ⟨h, h', h''⟩ | ⟨r, hr, rfl⟩
    · simp (disch := omega) only [wpX_commit, wpX_isClient, wpX_isRow, wpY_commit, wpY_badClient, wpY_badRow, hc, hc', h, pl_nq, pl_cc, pl_vc, pl_le8, pl_le32, pl_lt64, pl_lt1, pl_lt8, pl_lt32, nI_pos, nI_pos', vp_in_nI, nI_clamp, nI_1, nI_leI, nI_ltI, nI_eq, forall_eq, true_implies, forall_const, not_true_eq_false, not_false_eq_true, false_implies, and_true, true_and, implies_true, and_self, eq_self]
      exact pl_mk H
    · simp (disch := omega) only [wpX_commit, wpX_isClient, wpX_isRow, wpY_commit, wpY_badClient, wpY_badRow, hc, hc', h, h', h'', pl_nq, pl_cc, pl_vc, pl_le8, pl_le32, pl_lt64, pl_lt1, pl_lt8, pl_lt32, nI_pos, nI_pos', vp_in_nI, nI_clamp, nI_1, nI_leI, nI_ltI, nI_eq, forall_eq, true_implies, forall_const, not_true_eq_false, not_false_eq_true, false_implies, and_true, true_and, implies_true, and_self, eq_self]
      exact pl_mk H
    · have hr' : ¬ nr ≤ r := by omega
      rcases pl_cl H (c := c) (by omega) with ⟨m0, p0, _⟩ | ⟨t, m1, lt, p0, em, es, et, l1, l2, ef, ok, eq, eq', eg, ep, ep', lp⟩
      · simp (disch := omega) only [wpX_commit, wpX_isClient, wpX_isRow, wpY_commit, wpY_badClient, wpY_badRow, hc, hc', hr, hr', p0, pl_nq, pl_cc, pl_vc, pl_le8, pl_le32, pl_lt64, pl_lt1, pl_lt8, pl_lt32, nI_pos, nI_pos', vp_in_nI, nI_clamp, nI_1, nI_leI, nI_ltI, nI_eq, forall_eq, true_implies, forall_const, not_true_eq_false, not_false_eq_true, false_implies, and_true, true_and, implies_true, and_self, eq_self]
        exact pl_mk H
      · by_cases p1 : ph c = 1
        · simp (disch := omega) only [wpX_commit, wpX_isClient, wpX_isRow, wpY_commit, wpY_badClient, wpY_badRow, hc, hc', hr, hr', p1, pl_nq, pl_cc, pl_vc, pl_le8, pl_le32, pl_lt64, pl_lt1, pl_lt8, pl_lt32, nI_pos, nI_pos', vp_in_nI, nI_clamp, nI_1, nI_leI, nI_ltI, nI_eq, forall_eq, true_implies, forall_const, not_true_eq_false, not_false_eq_true, false_implies, and_true, true_and, implies_true, and_self, eq_self]
          exact pl_mk H
        · by_cases p2 : ph c = 2
          · simp (disch := omega) only [wpX_commit, wpX_isClient, wpX_isRow, wpY_commit, wpY_badClient, wpY_badRow, hc, hc', hr, hr', p2, pl_nq, pl_cc, pl_vc, pl_le8, pl_le32, pl_lt64, pl_lt1, pl_lt8, pl_lt32, nI_pos, nI_pos', vp_in_nI, nI_clamp, nI_1, nI_leI, nI_ltI, nI_eq, forall_eq, true_implies, forall_const, not_true_eq_false, not_false_eq_true, false_implies, and_true, true_and, implies_true, and_self, eq_self]
            exact pl_mk H
          · have e0 := (eg r (by omega)).1
            by_cases g0 : yg (t * 8 + r) = 0
            · simp (disch := omega) only [wpX_commit, wpX_isClient, wpX_isRow, wpX_clientCell, wpY_commit, wpY_badClient, wpY_badRow, hc, hc', hr, hr', p0, p1, p2, em, e0, g0, pl_nq, pl_cc, pl_vc, pl_le8, pl_le32, pl_lt64, pl_lt1, pl_lt8, pl_lt32, nI_pos, nI_pos', vp_in_nI, nI_clamp, nI_1, nI_leI, nI_ltI, nI_eq, forall_eq, true_implies, forall_const, not_true_eq_false, not_false_eq_true, false_implies, and_true, true_and, implies_true, and_self, eq_self]
              exact pl_mk H
            · by_cases p3 : ph c = 3
              · by_cases eq1 : yq t = nI r
                · by_cases f4 : yf t = 4
                  · simp (disch := omega) only [wpX_commit, wpX_isClient, wpX_isRow, wpX_clientCell, wpX_commitWhenStamped, hc, hc', hr, hr', p3, e0, g0, eq, eq1, es, ef, f4, pl_nq, pl_cc, pl_vc, pl_le8, pl_le32, pl_lt64, pl_lt1, pl_lt8, pl_lt32, nI_pos, nI_pos', vp_in_nI, nI_clamp, nI_1, nI_leI, nI_ltI, nI_eq, forall_eq, true_implies, forall_const, not_true_eq_false, not_false_eq_true, false_implies, and_true, true_and, implies_true, and_self, eq_self]
                    refine px_idle (by omega) ?_
                    simp (disch := omega) only [wX_commit_97, pl_nq, pl_cc, pl_vc, pl_le8, pl_le32, pl_lt64, pl_lt1, pl_lt8, pl_lt32, nI_pos, nI_pos', vp_in_nI, nI_clamp, nI_1, nI_leI, nI_ltI, nI_eq, forall_eq, true_implies, forall_const, not_true_eq_false, not_false_eq_true, false_implies, and_true, true_and, implies_true, and_self, eq_self]
                    simp (disch := omega) only [wpY_commit, wpY_badClient, wpY_badRow, hc, hc', hr, hr', p3, em, g0, eq1, f4, pl_nq, pl_cc, pl_vc, pl_le8, pl_le32, pl_lt64, pl_lt1, pl_lt8, pl_lt32, nI_pos, nI_pos', vp_in_nI, nI_clamp, nI_1, nI_leI, nI_ltI, nI_eq, forall_eq, true_implies, forall_const, not_true_eq_false, not_false_eq_true, false_implies, and_true, true_and, implies_true, and_self, eq_self]
                    exact pl_mk (pl_idle H (c := c) (by omega))
                  · obtain ⟨of, oP⟩ := pl_ok3 ok p3
                    have f2 : yf t = 2 := of.elim id (fun y => absurd y f4)
                    rw [if_neg oP] at ep
                    simp (disch := omega) only [wpX_commit, wpX_isClient, wpX_isRow, wpX_clientCell, wpX_commitWhenStamped, hc, hc', hr, hr', p3, e0, g0, eq, eq1, es, ef, f4, ep, pl_nq, pl_cc, pl_vc, pl_le8, pl_le32, pl_lt64, pl_lt1, pl_lt8, pl_lt32, nI_pos, nI_pos', vp_in_nI, nI_clamp, nI_1, nI_leI, nI_ltI, nI_eq, forall_eq, true_implies, forall_const, not_true_eq_false, not_false_eq_true, false_implies, and_true, true_and, implies_true, and_self, eq_self]
                    refine px_av (by omega) (by omega) lp ep (fun w z hA => ?_)
                    refine px_eh (by omega) ?_
                    simp (disch := omega) only [pl_cc, pl_vc, pl_le8, pl_le32, pl_lt64, pl_lt1, pl_lt8, pl_lt32, nI_pos, nI_pos', vp_in_nI, nI_clamp, nI_1, nI_leI, nI_ltI, nI_eq, forall_eq, true_implies, forall_const, not_true_eq_false, not_false_eq_true, false_implies, and_true, true_and, implies_true, and_self, eq_self]
                    have H1 := pl_comm H (c := c) (by omega) m1 p3 f2 hA.1 hA.2
                    have H2 := pl_stg H1 (c := c) (x := 3) (by omega) m1 (by rw [pl_us]; decide) (by rw [pl_us]; decide) hr g0 (by decide)
                    refine pc_end H2 hc m1 (Y := fun post => wpY_commit post (nI nc, nI nr, nI nl, nI nt, nI ck, nI bg, ph, ym, yf, ys, yp, yq, yl, yg, yv) (nI c) (nI r)) (fun post hp => ?_)
                    simp (disch := omega) only [wpY_commit, wpY_badClient, wpY_badRow, wY_commit_156, hc, hc', hr, hr', p3, em, g0, eq1, f4, pl_nq, pl_cc, pl_vc, pl_le8, pl_le32, pl_lt64, pl_lt1, pl_lt8, pl_lt32, nI_pos, nI_pos', vp_in_nI, nI_clamp, nI_1, nI_leI, nI_ltI, nI_eq, forall_eq, true_implies, forall_const, not_true_eq_false, not_false_eq_true, false_implies, and_true, true_and, implies_true, and_self, eq_self]
                    exact hp
                · have ne1 : ¬ nI r = yq t := fun y => eq1 y.symm
                  simp (disch := omega) only [wpX_commit, wpX_isClient, wpX_isRow, wpX_clientCell, wpX_commitWhenStamped, wX_commit_97, hc, hc', hr, hr', p3, e0, g0, eq, ne1, pl_nq, pl_cc, pl_vc, pl_le8, pl_le32, pl_lt64, pl_lt1, pl_lt8, pl_lt32, nI_pos, nI_pos', vp_in_nI, nI_clamp, nI_1, nI_leI, nI_ltI, nI_eq, forall_eq, true_implies, forall_const, not_true_eq_false, not_false_eq_true, false_implies, and_true, true_and, implies_true, and_self, eq_self]
                  simp (disch := omega) only [wpY_commit, wpY_badClient, wpY_badRow, hc, hc', hr, hr', p3, em, g0, ne1, pl_nq, pl_cc, pl_vc, pl_le8, pl_le32, pl_lt64, pl_lt1, pl_lt8, pl_lt32, nI_pos, nI_pos', vp_in_nI, nI_clamp, nI_1, nI_leI, nI_ltI, nI_eq, forall_eq, true_implies, forall_const, not_true_eq_false, not_false_eq_true, false_implies, and_true, true_and, implies_true, and_self, eq_self]
                  exact pl_mk H
              · have p4 : ph c = 4 := by
                  unfold pl_ok at ok
                  rcases ok with z | z | z | z
                  · exact absurd z.1 p1
                  · exact absurd z.1 p2
                  · exact absurd z.1 p3
                  · exact z.1
                have f3 := pl_ok4 ok p4
                by_cases g3 : yg (t * 8 + r) = 3
                · simp (disch := omega) only [wpX_commit, wpX_isClient, wpX_isRow, wpX_clientCell, wpX_commitWhenCommitted, wX_commit_97, hc, hc', hr, hr', p0, p1, p2, p3, e0, g3, pl_nq, pl_cc, pl_vc, pl_le8, pl_le32, pl_lt64, pl_lt1, pl_lt8, pl_lt32, nI_pos, nI_pos', vp_in_nI, nI_clamp, nI_1, nI_leI, nI_ltI, nI_eq, forall_eq, true_implies, forall_const, not_true_eq_false, not_false_eq_true, false_implies, and_true, true_and, implies_true, and_self, eq_self]
                  simp (disch := omega) only [wpY_commit, wpY_badClient, wpY_badRow, hc, hc', hr, hr', p0, p1, p2, p3, em, g3, pl_nq, pl_cc, pl_vc, pl_le8, pl_le32, pl_lt64, pl_lt1, pl_lt8, pl_lt32, nI_pos, nI_pos', vp_in_nI, nI_clamp, nI_1, nI_leI, nI_ltI, nI_eq, forall_eq, true_implies, forall_const, not_true_eq_false, not_false_eq_true, false_implies, and_true, true_and, implies_true, and_self, eq_self]
                  exact pl_mk H
                · simp (disch := omega) only [wpX_commit, wpX_isClient, wpX_isRow, wpX_clientCell, wpX_commitWhenCommitted, hc, hc', hr, hr', p0, p1, p2, p3, e0, g0, g3, pl_nq, pl_cc, pl_vc, pl_le8, pl_le32, pl_lt64, pl_lt1, pl_lt8, pl_lt32, nI_pos, nI_pos', vp_in_nI, nI_clamp, nI_1, nI_leI, nI_ltI, nI_eq, forall_eq, true_implies, forall_const, not_true_eq_false, not_false_eq_true, false_implies, and_true, true_and, implies_true, and_self, eq_self]
                  have H2 := pl_stg H (c := c) (x := 3) (by omega) m1 p1 (by rw [f3]; decide) hr g0 (by decide)
                  refine pc_end H2 hc m1 (Y := fun post => wpY_commit post (nI nc, nI nr, nI nl, nI nt, nI ck, nI bg, ph, ym, yf, ys, yp, yq, yl, yg, yv) (nI c) (nI r)) (fun post hp => ?_)
                  simp (disch := omega) only [wpY_commit, wpY_badClient, wpY_badRow, wY_commit_156, hc, hc', hr, hr', p0, p1, p2, p3, em, g0, g3, pl_nq, pl_cc, pl_vc, pl_le8, pl_le32, pl_lt64, pl_lt1, pl_lt8, pl_lt32, nI_pos, nI_pos', vp_in_nI, nI_clamp, nI_1, nI_leI, nI_ltI, nI_eq, forall_eq, true_implies, forall_const, not_true_eq_false, not_false_eq_true, false_implies, and_true, true_and, implies_true, and_self, eq_self]
                  exact hp
end PLN
end
