section PLA
/-! numbers and stores -/
theorem pl_us {f : Nat → Int32} {k : Nat} {x : Int32} : upd f k x k = x := if_pos rfl
theorem pl_un {f : Nat → Int32} {k j : Nat} {x : Int32} (h : j ≠ k) : upd f k x j = f j := if_neg h
def pl_nu (f : Nat → Nat) (k x : Nat) : Nat → Nat := fun j => if j = k then x else f j
theorem pl_ns {f : Nat → Nat} {k x : Nat} : pl_nu f k x k = x := if_pos rfl
theorem pl_nn {f : Nat → Nat} {k j x : Nat} (h : j ≠ k) : pl_nu f k x j = f j := if_neg h
theorem pl_ne1 {a : Nat} (h : a < 2 ^ 31) : ¬ nI a = -1 := by
  intro e
  have := nI_pos (n := a) h
  rw [e] at this
  exact this (by decide)
theorem pl_im {a b : Nat} (h : nI a = nI b) (ha : a < 2 ^ 31) (hb : b < 2 ^ 31) : a = b := (nI_eq ha hb).mp h
theorem pl_21 : ¬ (2 : Int32) = 1 := by decide
theorem pl_12 : ¬ (1 : Int32) = 2 := by decide
theorem pl_13 : ¬ (1 : Int32) = 3 := by decide
theorem pl_23 : ¬ (2 : Int32) = 3 := by decide
theorem pl_32 : ¬ (3 : Int32) = 2 := by decide
theorem pl_42 : ¬ (4 : Int32) = 2 := by decide
theorem pl_43 : ¬ (4 : Int32) = 3 := by decide
theorem pl_02 : ¬ (0 : Int32) = 2 := by decide
/-! how many of the first n have no stamp -/
def pl_zc (P : Nat → Nat) : Nat → Nat
  | 0 => 0
  | n + 1 => pl_zc P n + (if P n = 0 then 1 else 0)
theorem pl_zc_s {P : Nat → Nat} {n : Nat} : pl_zc P (n + 1) = pl_zc P n + (if P n = 0 then 1 else 0) := rfl
theorem pl_zc_hi {P : Nat → Nat} {k x : Nat} : ∀ n, n ≤ k → pl_zc (pl_nu P k x) n = pl_zc P n := by
  intro n
  induction n with
  | zero => intro _; rfl
  | succ n ih =>
    intro h
    rw [pl_zc_s, pl_zc_s, ih (by omega), pl_nn (by omega)]
theorem pl_zc_lo {P : Nat → Nat} {k x : Nat} (hk : P k = 0) (hx : x ≠ 0) : ∀ n, k < n → pl_zc (pl_nu P k x) n + 1 = pl_zc P n := by
  intro n
  induction n with
  | zero => intro h; omega
  | succ n ih =>
    intro h
    rw [pl_zc_s, pl_zc_s]
    by_cases e : n = k
    · subst e
      rw [pl_zc_hi n (Nat.le_refl n), pl_ns, if_neg hx, if_pos hk]
    · have := ih (by omega)
      rw [pl_nn e]
      omega
/-- the greatest of 1 .. n with Pr, or none -/
theorem pl_great (Pr : Nat → Prop) : ∀ n, (∃ p, 1 ≤ p ∧ p ≤ n ∧ Pr p ∧ ∀ q, p < q → q ≤ n → ¬ Pr q) ∨ (∀ q, 1 ≤ q → q ≤ n → ¬ Pr q) := by
  intro n
  induction n with
  | zero => exact Or.inr fun q h1 h2 => by omega
  | succ n ih =>
    by_cases h : Pr (n + 1)
    · exact Or.inl ⟨n + 1, by omega, Nat.le_refl _, h, fun q h1 h2 => by omega⟩
    · rcases ih with ⟨p, h1, h2, h3, h4⟩ | h0
      · refine Or.inl ⟨p, h1, by omega, h3, fun q hq hn => ?_⟩
        by_cases e : q = n + 1
        · rw [e]; exact h
        · exact h4 q hq (by omega)
      · refine Or.inr fun q hq hn => ?_
        by_cases e : q = n + 1
        · rw [e]; exact h
        · exact h0 q hq (by omega)
/-! what the two sides keep: X's arrays xs xp xq xg xv xf xl xc xh xw xz, Y's ym yf ys yp yq yl yg yv, the phases ph alike; S P: start and stamp of a transaction by its number; M: a client's transaction and one, or 0 -/
def pl_SZ (nc nr nl nt ck bg : Nat) (P : Nat → Nat) : Prop :=
  1 ≤ nc ∧ nc ≤ 8 ∧ 2 ≤ nr ∧ nr ≤ 8 ∧ 1 ≤ nl ∧ nl ≤ 100 ∧ 8 ≤ nt ∧ nt ≤ 32 ∧ bg ≤ nt ∧ ck + pl_zc P bg ≤ 2 * bg
def pl_TS (ck bg : Nat) (S : Nat → Nat) (ys : Nat → Int32) : Prop := ∀ t, t < bg → ys t = nI (S t) ∧ 1 ≤ S t ∧ S t ≤ ck
def pl_TI (bg : Nat) (S : Nat → Nat) : Prop := ∀ t t', t < t' → t' < bg → S t < S t'
def pl_TP (ck : Nat) (P : Nat → Nat) (yp : Nat → Int32) : Prop := ∀ t, t < 32 → yp t = nI (P t) ∧ P t ≤ ck
def pl_TJ (P : Nat → Nat) : Prop := ∀ t t', t < 32 → t' < 32 → P t = P t' → P t = 0 ∨ t = t'
def pl_TN (bg : Nat) (P : Nat → Nat) (yf yg : Nat → Int32) : Prop := ∀ t, bg ≤ t → t < 32 → yf t = 0 ∧ P t = 0 ∧ ∀ r, r < 8 → yg (t * 8 + r) = 0
def pl_TR (nr : Nat) (yg : Nat → Int32) : Prop := ∀ t r, t < 32 → nr ≤ r → r < 8 → yg (t * 8 + r) = 0
def pl_T3 (P : Nat → Nat) (yf : Nat → Int32) : Prop := ∀ t, t < 32 → yf t = 3 → P t ≠ 0
def pl_CI (M : Nat → Nat) (xs xp xq xg : Nat → Int32) : Prop := ∀ c, c < 8 → M c = 0 → xs c = -1 ∧ xp c = -1 ∧ xq c = -1 ∧ ∀ r, r < 8 → xg (c * 8 + r) = 0
def pl_CA (bg : Nat) (S P M : Nat → Nat) (xs xp xq ym yq : Nat → Int32) : Prop :=
  ∀ c t, c < 8 → M c = t + 1 → t < bg ∧ ym c = nI t ∧ xs c = nI (S t) ∧ xp c = (if P t = 0 then -1 else nI (P t)) ∧ xq c = yq t ∧ (yq t = -1 ∨ ¬ yq t < 0)
def pl_CJ (M : Nat → Nat) : Prop := ∀ c c' t, c < 8 → c' < 8 → M c = t + 1 → M c' = t + 1 → c = c'
def pl_CG (M : Nat → Nat) (xg xv yg yv : Nat → Int32) : Prop :=
  ∀ c t r, c < 8 → M c = t + 1 → r < 8 → xg (c * 8 + r) = yg (t * 8 + r) ∧ (yg (t * 8 + r) ≠ 0 → xv (c * 8 + r) = yv (t * 8 + r))
def pl_ok (ph yf yg : Nat → Int32) (P : Nat → Nat) (c t : Nat) : Prop :=
  (ph c = 1 ∧ yf t = 1 ∧ P t = 0 ∧ ∀ r, r < 8 → yg (t * 8 + r) ≠ 2) ∨ (ph c = 2 ∧ (yf t = 2 ∨ yf t = 4) ∧ P t = 0) ∨ (ph c = 3 ∧ (yf t = 2 ∨ yf t = 4) ∧ P t ≠ 0) ∨ (ph c = 4 ∧ yf t = 3)
def pl_CF (P M : Nat → Nat) (ph yf yg : Nat → Int32) : Prop := ∀ c, c < 8 → (M c = 0 ∧ ph c = 0) ∨ ∃ t, M c = t + 1 ∧ pl_ok ph yf yg P c t
def pl_DF (bg : Nat) (S : Nat → Nat) (xf yf : Nat → Int32) : Prop := ∀ t, t < bg → xf (S t) = yf t
def pl_DL (bg : Nat) (S : Nat → Nat) (xl yf yl : Nat → Int32) : Prop := ∀ t, t < bg → yf t = 2 → xl (S t) = yl t
def pl_DC (bg : Nat) (S P : Nat → Nat) (xc yf : Nat → Int32) : Prop := ∀ t, t < bg → yf t = 3 → xc (S t) = nI (P t)
def pl_DN (bg : Nat) (S : Nat → Nat) (xf : Nat → Int32) : Prop := ∀ s, 1 ≤ s → s ≤ 64 → (∀ t, t < bg → S t ≠ s) → xf s = 0
def pl_HE (nr bg : Nat) (S : Nat → Nat) (xh yf yg : Nat → Int32) : Prop := ∀ r t, r < nr → t < bg → yf t = 2 → yg (t * 8 + r) = 2 → xh r = nI (S t)
def pl_HX (nr bg : Nat) (S : Nat → Nat) (xh yf yg : Nat → Int32) : Prop := ∀ r, r < nr → xh r = -1 ∨ ∃ t, t < bg ∧ yf t = 2 ∧ yg (t * 8 + r) = 2 ∧ xh r = nI (S t)
def pl_VE (bg : Nat) (P : Nat → Nat) (xw xz yf yg yv : Nat → Int32) : Prop :=
  ∀ r t, r < 8 → t < bg → yf t = 3 → yg (t * 8 + r) ≠ 0 → xw (r * 65 + P t) = 1 ∧ xz (r * 65 + P t) = yv (t * 8 + r)
def pl_VX (bg : Nat) (P : Nat → Nat) (xw yf yg : Nat → Int32) : Prop :=
  ∀ r p, r < 8 → 1 ≤ p → p ≤ 64 → xw (r * 65 + p) ≠ 0 → ∃ t, t < bg ∧ yf t = 3 ∧ yg (t * 8 + r) ≠ 0 ∧ P t = p
def pl_R (nc nr nl nt ck bg : Nat) (S P M : Nat → Nat) (ph xs xp xq xg xv xf xl xc xh xw xz ym yf ys yp yq yl yg yv : Nat → Int32) : Prop :=
  pl_SZ nc nr nl nt ck bg P ∧ pl_TS ck bg S ys ∧ pl_TI bg S ∧ pl_TP ck P yp ∧ pl_TJ P ∧ pl_TN bg P yf yg ∧ pl_TR nr yg ∧ pl_T3 P yf ∧
  pl_CI M xs xp xq xg ∧ pl_CA bg S P M xs xp xq ym yq ∧ pl_CJ M ∧ pl_CG M xg xv yg yv ∧ pl_CF P M ph yf yg ∧
  pl_DF bg S xf yf ∧ pl_DL bg S xl yf yl ∧ pl_DC bg S P xc yf ∧ pl_DN bg S xf ∧ pl_HE nr bg S xh yf yg ∧ pl_HX nr bg S xh yf yg ∧
  pl_VE bg P xw xz yf yg yv ∧ pl_VX bg P xw yf yg
theorem pl_Sj {bg : Nat} {S : Nat → Nat} (h : pl_TI bg S) {t t' : Nat} (ht : t < bg) (ht' : t' < bg) (e : t ≠ t') : S t ≠ S t' := by
  intro E
  rcases Nat.lt_trichotomy t t' with l | l | l
  · have := h t t' l ht'; omega
  · exact e l
  · have := h t' t l ht; omega
/-- a client's cells cleared; a start's holds ended -/
def pl_zr (c : Nat) (f : Nat → Int32) : Nat → Int32 := fun j => if c * 8 ≤ j ∧ j < c * 8 + 8 then 0 else f j
theorem pl_zr_i {c r : Nat} {f : Nat → Int32} (h : r < 8) : pl_zr c f (c * 8 + r) = 0 := if_pos (by omega)
theorem pl_zr_o {c c' r : Nat} {f : Nat → Int32} (h : r < 8) (e : c' ≠ c) : pl_zr c f (c' * 8 + r) = f (c' * 8 + r) := if_neg (by omega)
def pl_eh (nr : Nat) (x : Int32) (f : Nat → Int32) : Nat → Int32 := fun r => if r < nr ∧ f r = x then -1 else f r
theorem pl_eh_i {nr r : Nat} {x : Int32} {f : Nat → Int32} (h : r < nr) (e : f r = x) : pl_eh nr x f r = -1 := if_pos ⟨h, e⟩
theorem pl_eh_o {nr r : Nat} {x : Int32} {f : Nat → Int32} (e : f r ≠ x) : pl_eh nr x f r = f r := if_neg fun z => e z.2
theorem pl_c2 {f : Nat → Int32} {a b a' b' : Nat} {x : Int32} (hb : b < 8) (hb' : b' < 8) (e : a' ≠ a) : upd f (a * 8 + b) x (a' * 8 + b') = f (a' * 8 + b') := pl_un (by omega)
theorem pl_c3 {f : Nat → Int32} {a b b' : Nat} {x : Int32} (e : b' ≠ b) : upd f (a * 8 + b) x (a * 8 + b') = f (a * 8 + b') := pl_un (by omega)
end PLA
