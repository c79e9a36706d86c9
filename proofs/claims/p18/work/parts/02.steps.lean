section PLB
variable {nc nr nl nt ck bg : Nat} {S P M : Nat → Nat} {ph xs xp xq xg xv xf xl xc xh xw xz ym yf ys yp yq yl yg yv : Nat → Int32}
/-! a client becomes idle -/
theorem pl_idle (H : pl_R nc nr nl nt ck bg S P M ph xs xp xq xg xv xf xl xc xh xw xz ym yf ys yp yq yl yg yv) {c : Nat} (hc : c < 8) :
    pl_R nc nr nl nt ck bg S P (pl_nu M c 0) (upd ph c 0) (upd xs c (-1)) (upd xp c (-1)) (upd xq c (-1)) (pl_zr c xg) xv xf xl xc xh xw xz ym yf ys yp yq yl yg yv := by
  obtain ⟨hSZ, hTS, hTI, hTP, hTJ, hTN, hTR, hT3, hCI, hCA, hCJ, hCG, hCF, hDF, hDL, hDC, hDN, hHE, hHX, hVE, hVX⟩ := H
  have hM : ∀ c' t, pl_nu M c 0 c' = t + 1 → c' ≠ c ∧ M c' = t + 1 := by
    intro c' t h
    by_cases e : c' = c
    · rw [e, pl_ns] at h; omega
    · rw [pl_nn e] at h; exact ⟨e, h⟩
  refine ⟨hSZ, hTS, hTI, hTP, hTJ, hTN, hTR, hT3, ?_, ?_, ?_, ?_, ?_, hDF, hDL, hDC, hDN, hHE, hHX, hVE, hVX⟩
  · intro c' hc' h
    by_cases e : c' = c
    · rw [e]
      exact ⟨pl_us, pl_us, pl_us, fun r hr => pl_zr_i hr⟩
    · rw [pl_nn e] at h
      obtain ⟨h1, h2, h3, h4⟩ := hCI c' hc' h
      rw [pl_un e, pl_un e, pl_un e]
      exact ⟨h1, h2, h3, fun r hr => by rw [pl_zr_o hr e]; exact h4 r hr⟩
  · intro c' t hc' h
    obtain ⟨e, h⟩ := hM c' t h
    rw [pl_un e, pl_un e, pl_un e]
    exact hCA c' t hc' h
  · intro c1 c2 t h1 h2 e1 e2
    exact hCJ c1 c2 t h1 h2 (hM c1 t e1).2 (hM c2 t e2).2
  · intro c' t r hc' h hr
    obtain ⟨e, h⟩ := hM c' t h
    rw [pl_zr_o hr e]
    exact hCG c' t r hc' h hr
  · intro c' hc'
    by_cases e : c' = c
    · rw [e]
      exact Or.inl ⟨pl_ns, pl_us⟩
    · unfold pl_ok
      rw [pl_nn e, pl_un e]
      exact hCF c' hc'
/-! a pending transaction is rolled back -/
theorem pl_roll (H : pl_R nc nr nl nt ck bg S P M ph xs xp xq xg xv xf xl xc xh xw xz ym yf ys yp yq yl yg yv) {t : Nat} (ht : t < bg) (hf : yf t = 2) :
    pl_R nc nr nl nt ck bg S P M ph xs xp xq xg xv (upd xf (S t) 4) xl xc (pl_eh nr (nI (S t)) xh) xw xz ym (upd yf t 4) ys yp yq yl yg yv := by
  obtain ⟨hSZ, hTS, hTI, hTP, hTJ, hTN, hTR, hT3, hCI, hCA, hCJ, hCG, hCF, hDF, hDL, hDC, hDN, hHE, hHX, hVE, hVX⟩ := H
  have hb : bg ≤ 32 ∧ ck ≤ 64 := by unfold pl_SZ at hSZ; omega
  have hS : ∀ q, q < bg → S q < 2 ^ 31 := fun q hq => by have := (hTS q hq).2.2; omega
  have hn : ∀ q, q < bg → q ≠ t → nI (S q) ≠ nI (S t) := fun q hq e z => pl_Sj hTI hq ht e (pl_im z (hS q hq) (hS t ht))
  have h2 : ∀ q, upd yf t 4 q = 2 → q ≠ t ∧ yf q = 2 := by
    intro q h
    by_cases e : q = t
    · rw [e, pl_us] at h; exact absurd h pl_42
    · rw [pl_un e] at h; exact ⟨e, h⟩
  have h3 : ∀ q, upd yf t 4 q = 3 → q ≠ t ∧ yf q = 3 := by
    intro q h
    by_cases e : q = t
    · rw [e, pl_us] at h; exact absurd h pl_43
    · rw [pl_un e] at h; exact ⟨e, h⟩
  refine ⟨hSZ, hTS, hTI, hTP, hTJ, ?_, hTR, ?_, hCI, hCA, hCJ, hCG, ?_, ?_, ?_, ?_, ?_, ?_, ?_, ?_, ?_⟩
  · intro q h1 h2
    rw [pl_un (by omega)]
    exact hTN q h1 h2
  · intro q hq h
    exact hT3 q hq (h3 q h).2
  · intro c hc
    rcases hCF c hc with h | ⟨q, hm, h⟩
    · exact Or.inl h
    · refine Or.inr ⟨q, hm, ?_⟩
      unfold pl_ok at h ⊢
      by_cases e : q = t
      · subst e
        rw [pl_us]
        rcases h with h | h | h | h
        · rw [hf] at h; exact absurd h.2.1 pl_21
        · exact Or.inr (Or.inl ⟨h.1, Or.inr rfl, h.2.2⟩)
        · exact Or.inr (Or.inr (Or.inl ⟨h.1, Or.inr rfl, h.2.2⟩))
        · rw [hf] at h; exact absurd h.2 pl_23
      · rw [pl_un e]; exact h
  · intro q hq
    by_cases e : q = t
    · rw [e, pl_us, pl_us]
    · rw [pl_un e, pl_un (pl_Sj hTI hq ht e)]; exact hDF q hq
  · intro q hq h
    exact hDL q hq (h2 q h).2
  · intro q hq h
    exact hDC q hq (h3 q h).2
  · intro s h1 h2 h
    rw [pl_un (fun e => h t ht e.symm)]
    exact hDN s h1 h2 h
  · intro r q hr hq h hg
    obtain ⟨e, h⟩ := h2 q h
    have z := hHE r q hr hq h hg
    rw [pl_eh_o (by rw [z]; exact hn q hq e)]
    exact z
  · intro r hr
    by_cases z : xh r = nI (S t)
    · exact Or.inl (pl_eh_i hr z)
    · rw [pl_eh_o z]
      rcases hHX r hr with h | ⟨q, hq, h1, h2, h3⟩
      · exact Or.inl h
      · have e : q ≠ t := fun e => z (by rw [h3, e])
        exact Or.inr ⟨q, hq, by rw [pl_un e]; exact h1, h2, h3⟩
  · intro r q hr hq h hg
    exact hVE r q hr hq (h3 q h).2 hg
  · intro r p hr h1 h2 h
    obtain ⟨q, hq, hq3, hg, hp⟩ := hVX r p hr h1 h2 h
    have e : q ≠ t := fun e => by rw [e, hf] at hq3; exact pl_23 hq3
    exact ⟨q, hq, by rw [pl_un e]; exact hq3, hg, hp⟩
/-! a client begins -/
theorem pl_beg (H : pl_R nc nr nl nt ck bg S P M ph xs xp xq xg xv xf xl xc xh xw xz ym yf ys yp yq yl yg yv) {c : Nat} (hc : c < 8) (hm : M c = 0) (hbt : bg < nt) :
    pl_R nc nr nl nt (ck + 1) (bg + 1) (pl_nu S bg (ck + 1)) P (pl_nu M c (bg + 1)) (upd ph c 1) (upd xs c (nI (ck + 1))) xp xq xg xv (upd xf (ck + 1) 1) xl xc xh xw xz (upd ym c (nI bg)) (upd yf bg 1) (upd ys bg (nI (ck + 1))) yp (upd yq bg (-1)) yl yg yv := by
  obtain ⟨hSZ, hTS, hTI, hTP, hTJ, hTN, hTR, hT3, hCI, hCA, hCJ, hCG, hCF, hDF, hDL, hDC, hDN, hHE, hHX, hVE, hVX⟩ := H
  have hb : nt ≤ 32 := by unfold pl_SZ at hSZ; omega
  obtain ⟨hN1, hN2, hN3⟩ := hTN bg (Nat.le_refl bg) (by omega)
  have hM : ∀ c' t, pl_nu M c (bg + 1) c' = t + 1 → (c' = c ∧ t = bg) ∨ (c' ≠ c ∧ M c' = t + 1) := by
    intro c' t h
    by_cases e : c' = c
    · rw [e, pl_ns] at h; exact Or.inl ⟨e, by omega⟩
    · rw [pl_nn e] at h; exact Or.inr ⟨e, h⟩
  have hlt : ∀ c' t, c' < 8 → M c' = t + 1 → t < bg := fun c' t h1 h2 => (hCA c' t h1 h2).1
  have h2 : ∀ q, q < bg + 1 → upd yf bg 1 q = 2 → q < bg ∧ yf q = 2 := by
    intro q hq h
    by_cases e : q = bg
    · rw [e, pl_us] at h; exact absurd h pl_12
    · rw [pl_un e] at h; exact ⟨by omega, h⟩
  have h3 : ∀ q, upd yf bg 1 q = 3 → q ≠ bg ∧ yf q = 3 := by
    intro q h
    by_cases e : q = bg
    · rw [e, pl_us] at h; exact absurd h pl_13
    · rw [pl_un e] at h; exact ⟨e, h⟩
  have hSo : ∀ q, q < bg → pl_nu S bg (ck + 1) q = S q := fun q hq => pl_nn (by omega)
  refine ⟨?_, ?_, ?_, ?_, hTJ, ?_, hTR, ?_, ?_, ?_, ?_, ?_, ?_, ?_, ?_, ?_, ?_, ?_, ?_, ?_, ?_⟩
  · unfold pl_SZ at hSZ ⊢
    rw [pl_zc_s, if_pos hN2]
    omega
  · intro q hq
    by_cases e : q = bg
    · rw [e, pl_us, pl_ns]; exact ⟨rfl, by omega, by omega⟩
    · rw [pl_un e, pl_nn e]
      obtain ⟨a, b, d⟩ := hTS q (by omega)
      exact ⟨a, b, by omega⟩
  · intro q q' h1 h2
    rw [hSo q (by omega)]
    by_cases e : q' = bg
    · rw [e, pl_ns]
      have := (hTS q (by omega)).2.2
      omega
    · rw [pl_nn e]; exact hTI q q' h1 (by omega)
  · intro q hq
    obtain ⟨a, b⟩ := hTP q hq
    exact ⟨a, by omega⟩
  · intro q h1 h2
    rw [pl_un (by omega)]
    exact hTN q (by omega) h2
  · intro q hq h
    exact hT3 q hq (h3 q h).2
  · intro c' hc' h
    by_cases e : c' = c
    · rw [e, pl_ns] at h; omega
    · rw [pl_nn e] at h
      rw [pl_un e]
      exact hCI c' hc' h
  · intro c' t hc' h
    rcases hM c' t h with ⟨e, e'⟩ | ⟨e, h⟩
    · subst e; subst e'
      obtain ⟨i1, i2, i3, i4⟩ := hCI c' hc hm
      rw [pl_us, pl_us, pl_us, pl_ns, if_pos hN2]
      exact ⟨by omega, rfl, rfl, i2, i3, Or.inl rfl⟩
    · have l := hlt c' t hc' h
      rw [pl_un e, pl_un e, pl_un (show t ≠ bg by omega), hSo t l]
      obtain ⟨a, b⟩ := hCA c' t hc' h
      exact ⟨by omega, b⟩
  · intro c1 c2 t l1 l2 e1 e2
    rcases hM c1 t e1 with ⟨a1, b1⟩ | ⟨a1, b1⟩
    · rcases hM c2 t e2 with ⟨a2, b2⟩ | ⟨a2, b2⟩
      · omega
      · have := hlt c2 t l2 b2; omega
    · rcases hM c2 t e2 with ⟨a2, b2⟩ | ⟨a2, b2⟩
      · have := hlt c1 t l1 b1; omega
      · exact hCJ c1 c2 t l1 l2 b1 b2
  · intro c' t r hc' h hr
    rcases hM c' t h with ⟨e, e'⟩ | ⟨e, h⟩
    · subst e; subst e'
      rw [(hCI c' hc hm).2.2.2 r hr, hN3 r hr]
      exact ⟨rfl, fun z => absurd rfl z⟩
    · exact hCG c' t r hc' h hr
  · intro c' hc'
    by_cases e : c' = c
    · rw [e]
      refine Or.inr ⟨bg, pl_ns, Or.inl ⟨pl_us, pl_us, hN2, fun r hr => ?_⟩⟩
      rw [hN3 r hr]; exact pl_02
    · rw [pl_nn e]
      rcases hCF c' hc' with h | ⟨q, h1, h⟩
      · exact Or.inl (by rw [pl_un e]; exact h)
      · refine Or.inr ⟨q, h1, ?_⟩
        have l := hlt c' q hc' h1
        unfold pl_ok at h ⊢
        rw [pl_un e, pl_un (show q ≠ bg by omega)]
        exact h
  · intro q hq
    by_cases e : q = bg
    · rw [e, pl_us, pl_ns, pl_us]
    · have l := (hTS q (by omega)).2.2
      rw [pl_nn e, pl_un e, pl_un (show S q ≠ ck + 1 by omega)]
      exact hDF q (by omega)
  · intro q hq h
    obtain ⟨l, h⟩ := h2 q hq h
    rw [hSo q l]; exact hDL q l h
  · intro q hq h
    obtain ⟨e, h⟩ := h3 q h
    rw [hSo q (by omega)]; exact hDC q (by omega) h
  · intro s h1 h2 h
    have z := h bg (by omega)
    rw [pl_ns] at z
    rw [pl_un (fun e => z e.symm)]
    refine hDN s h1 h2 fun q hq => ?_
    have z' := h q (by omega)
    rw [hSo q hq] at z'
    exact z'
  · intro r q hr hq h hg
    obtain ⟨l, h⟩ := h2 q hq h
    rw [hSo q l]; exact hHE r q hr l h hg
  · intro r hr
    rcases hHX r hr with h | ⟨q, hq, h1, h2, h3⟩
    · exact Or.inl h
    · exact Or.inr ⟨q, by omega, by rw [pl_un (by omega)]; exact h1, h2, by rw [hSo q hq]; exact h3⟩
  · intro r q hr hq h hg
    obtain ⟨e, h⟩ := h3 q h
    exact hVE r q hr (by omega) h hg
  · intro r p hr h1 h2 h
    obtain ⟨q, hq, hq3, hg, hp⟩ := hVX r p hr h1 h2 h
    exact ⟨q, by omega, by rw [pl_un (by omega)]; exact hq3, hg, hp⟩
/-! a client puts -/
theorem pl_put (H : pl_R nc nr nl nt ck bg S P M ph xs xp xq xg xv xf xl xc xh xw xz ym yf ys yp yq yl yg yv) {c t r : Nat} {x : Int32} (hc : c < 8) (hm : M c = t + 1) (hp : ph c = 1) (hr : r < nr) :
    pl_R nc nr nl nt ck bg S P M ph xs xp xq (upd xg (c * 8 + r) 1) (upd xv (c * 8 + r) x) xf xl xc xh xw xz ym yf ys yp yq yl (upd yg (t * 8 + r) 1) (upd yv (t * 8 + r) x) := by
  obtain ⟨hSZ, hTS, hTI, hTP, hTJ, hTN, hTR, hT3, hCI, hCA, hCJ, hCG, hCF, hDF, hDL, hDC, hDN, hHE, hHX, hVE, hVX⟩ := H
  have hb : bg ≤ 32 ∧ nr ≤ 8 := by unfold pl_SZ at hSZ; omega
  have hr8 : r < 8 := by omega
  have ht : t < bg := (hCA c t hc hm).1
  have hf : yf t = 1 := by
    rcases hCF c hc with h | ⟨q, h1, h⟩
    · omega
    · have e : q = t := by omega
      subst e
      unfold pl_ok at h
      rw [hp] at h
      rcases h with h | h | h | h
      · exact h.2.1
      · exact absurd h.1 pl_12
      · exact absurd h.1 pl_13
      · exact absurd h.1 (by decide)
  have hne : ∀ q y, yf q = y → ¬ (1 : Int32) = y → q ≠ t := fun q y h z e => z (by rw [← h, e, hf])
  refine ⟨hSZ, hTS, hTI, hTP, hTJ, ?_, ?_, hT3, ?_, hCA, hCJ, ?_, ?_, hDF, hDL, hDC, hDN, ?_, ?_, ?_, ?_⟩
  · intro q h1 h2
    obtain ⟨a, b, d⟩ := hTN q h1 h2
    exact ⟨a, b, fun r' hr' => by rw [pl_c2 hr8 hr' (by omega)]; exact d r' hr'⟩
  · intro q r' hq h1 h2
    rw [pl_un (by omega)]
    exact hTR q r' hq h1 h2
  · intro c' hc' h
    obtain ⟨a, b, d, e⟩ := hCI c' hc' h
    exact ⟨a, b, d, fun r' hr' => by rw [pl_c2 hr8 hr' (fun z => by rw [z] at h; omega)]; exact e r' hr'⟩
  · intro c' q r' hc' h hr'
    by_cases e : c' = c
    · subst e
      have e : q = t := by omega
      subst e
      by_cases e' : r' = r
      · subst e'
        rw [pl_us, pl_us, pl_us, pl_us]
        exact ⟨rfl, fun _ => rfl⟩
      · rw [pl_c3 e', pl_c3 e', pl_c3 e', pl_c3 e']
        exact hCG c' q r' hc' h hr'
    · have e2 : q ≠ t := fun z => e (hCJ c' c t hc' hc (by rw [← z]; exact h) hm)
      rw [pl_c2 hr8 hr' e, pl_c2 hr8 hr' e2, pl_c2 hr8 hr' e, pl_c2 hr8 hr' e2]
      exact hCG c' q r' hc' h hr'
  · intro c' hc'
    rcases hCF c' hc' with h | ⟨q, h1, h⟩
    · exact Or.inl h
    · refine Or.inr ⟨q, h1, ?_⟩
      unfold pl_ok at h ⊢
      rcases h with ⟨a, b, d, h⟩ | h | h | h
      · refine Or.inl ⟨a, b, d, fun r' hr' => ?_⟩
        by_cases e : q * 8 + r' = t * 8 + r
        · rw [e, pl_us]; exact pl_12
        · rw [pl_un e]; exact h r' hr'
      · exact Or.inr (Or.inl h)
      · exact Or.inr (Or.inr (Or.inl h))
      · exact Or.inr (Or.inr (Or.inr h))
  · intro r' q hr' hq h hg
    rw [pl_c2 hr8 (by omega) (hne q 2 h pl_12)] at hg
    exact hHE r' q hr' hq h hg
  · intro r' hr'
    rcases hHX r' hr' with h | ⟨q, hq, h1, h2, h3⟩
    · exact Or.inl h
    · exact Or.inr ⟨q, hq, h1, by rw [pl_c2 hr8 (by omega) (hne q 2 h1 pl_12)]; exact h2, h3⟩
  · intro r' q hr' hq h hg
    have e := hne q 3 h pl_13
    rw [pl_c2 hr8 hr' e] at hg ⊢
    exact hVE r' q hr' hq h hg
  · intro r' p hr' h1 h2 h
    obtain ⟨q, hq, hq3, hg, hp⟩ := hVX r' p hr' h1 h2 h
    exact ⟨q, hq, hq3, by rw [pl_c2 hr8 hr' (hne q 3 hq3 pl_13)]; exact hg, hp⟩
end PLB
