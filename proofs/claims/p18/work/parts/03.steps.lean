section PLC
variable {nc nr nl nt ck bg : Nat} {S P M : Nat → Nat} {ph xs xp xq xg xv xf xl xc xh xw xz ym yf ys yp yq yl yg yv : Nat → Int32}
theorem pl_cf (h : pl_CF P M ph yf yg) {c t : Nat} (hc : c < 8) (hm : M c = t + 1) : pl_ok ph yf yg P c t := by
  rcases h c hc with h | ⟨q, h1, h⟩
  · omega
  · have e : q = t := by omega
    subst e
    exact h
theorem pl_ok1 {c t : Nat} (h : pl_ok ph yf yg P c t) (hp : ph c = 1) : yf t = 1 ∧ P t = 0 ∧ ∀ r, r < 8 → yg (t * 8 + r) ≠ 2 := by
  unfold pl_ok at h
  rw [hp] at h
  rcases h with h | h | h | h
  · exact h.2
  · exact absurd h.1 (by decide)
  · exact absurd h.1 (by decide)
  · exact absurd h.1 (by decide)
theorem pl_ok2 {c t : Nat} (h : pl_ok ph yf yg P c t) (hp : ph c = 2) : (yf t = 2 ∨ yf t = 4) ∧ P t = 0 := by
  unfold pl_ok at h
  rw [hp] at h
  rcases h with h | h | h | h
  · exact absurd h.1 (by decide)
  · exact h.2
  · exact absurd h.1 (by decide)
  · exact absurd h.1 (by decide)
theorem pl_ok3 {c t : Nat} (h : pl_ok ph yf yg P c t) (hp : ph c = 3) : (yf t = 2 ∨ yf t = 4) ∧ P t ≠ 0 := by
  unfold pl_ok at h
  rw [hp] at h
  rcases h with h | h | h | h
  · exact absurd h.1 (by decide)
  · exact absurd h.1 (by decide)
  · exact h.2
  · exact absurd h.1 (by decide)
theorem pl_ok4 {c t : Nat} (h : pl_ok ph yf yg P c t) (hp : ph c = 4) : yf t = 3 := by
  unfold pl_ok at h
  rw [hp] at h
  rcases h with h | h | h | h
  · exact absurd h.1 (by decide)
  · exact absurd h.1 (by decide)
  · exact absurd h.1 (by decide)
  · exact h.2
/-! the first prewritten row: the transaction is pending from here -/
theorem pl_pend (H : pl_R nc nr nl nt ck bg S P M ph xs xp xq xg xv xf xl xc xh xw xz ym yf ys yp yq yl yg yv) {c t r : Nat} (hc : c < 8) (hm : M c = t + 1) (hp : ph c = 1) (hr : r < nr) :
    pl_R nc nr nl nt ck bg S P M (upd ph c 2) xs xp (upd xq c (nI r)) xg xv (upd xf (S t) 2) (upd xl (S t) (nI nl)) xc xh xw xz ym (upd yf t 2) ys yp (upd yq t (nI r)) (upd yl t (nI nl)) yg yv := by
  obtain ⟨hSZ, hTS, hTI, hTP, hTJ, hTN, hTR, hT3, hCI, hCA, hCJ, hCG, hCF, hDF, hDL, hDC, hDN, hHE, hHX, hVE, hVX⟩ := H
  have hb : bg ≤ 32 ∧ nr ≤ 8 := by unfold pl_SZ at hSZ; omega
  have ht : t < bg := (hCA c t hc hm).1
  obtain ⟨hf, hP, hg2⟩ := pl_ok1 (pl_cf hCF hc hm) hp
  have h3 : ∀ q, upd yf t 2 q = 3 → q ≠ t ∧ yf q = 3 := by
    intro q h
    by_cases e : q = t
    · rw [e, pl_us] at h; exact absurd h pl_23
    · rw [pl_un e] at h; exact ⟨e, h⟩
  have hne : ∀ q y, yf q = y → ¬ (1 : Int32) = y → q ≠ t := fun q y h z e => z (by rw [← h, e, hf])
  refine ⟨hSZ, hTS, hTI, hTP, hTJ, ?_, hTR, ?_, ?_, ?_, hCJ, hCG, ?_, ?_, ?_, ?_, ?_, ?_, ?_, ?_, ?_⟩
  · intro q h1 h2
    rw [pl_un (by omega)]
    exact hTN q h1 h2
  · intro q hq h
    exact hT3 q hq (h3 q h).2
  · intro c' hc' h
    rw [pl_un (fun z => by rw [z] at h; omega)]
    exact hCI c' hc' h
  · intro c' q hc' h
    by_cases e : c' = c
    · subst e
      have e : q = t := by omega
      subst e
      obtain ⟨a, b, d, f, _⟩ := hCA c' q hc' h
      rw [pl_us, pl_us]
      exact ⟨a, b, d, f, rfl, Or.inr (nI_pos (by omega))⟩
    · have e2 : q ≠ t := fun z => e (hCJ c' c t hc' hc (by rw [← z]; exact h) hm)
      rw [pl_un e, pl_un e2]
      exact hCA c' q hc' h
  · intro c' hc'
    by_cases e : c' = c
    · rw [e]
      exact Or.inr ⟨t, hm, Or.inr (Or.inl ⟨pl_us, Or.inl pl_us, hP⟩)⟩
    · rcases hCF c' hc' with h | ⟨q, h1, h⟩
      · exact Or.inl (by rw [pl_un e]; exact h)
      · have e2 : q ≠ t := fun z => e (hCJ c' c t hc' hc (by rw [← z]; exact h1) hm)
        refine Or.inr ⟨q, h1, ?_⟩
        unfold pl_ok at h ⊢
        rw [pl_un e, pl_un e2]
        exact h
  · intro q hq
    by_cases e : q = t
    · rw [e, pl_us, pl_us]
    · rw [pl_un e, pl_un (pl_Sj hTI hq ht e)]; exact hDF q hq
  · intro q hq h
    by_cases e : q = t
    · rw [e, pl_us, pl_us]
    · rw [pl_un e] at h ⊢
      rw [pl_un (pl_Sj hTI hq ht e)]; exact hDL q hq h
  · intro q hq h
    exact hDC q hq (h3 q h).2
  · intro s h1 h2 h
    rw [pl_un (fun e => h t ht e.symm)]
    exact hDN s h1 h2 h
  · intro r' q hr' hq h hg
    by_cases e : q = t
    · rw [e] at hg; exact absurd hg (hg2 r' (by omega))
    · rw [pl_un e] at h; exact hHE r' q hr' hq h hg
  · intro r' hr'
    rcases hHX r' hr' with h | ⟨q, hq, h1, h2, h3⟩
    · exact Or.inl h
    · exact Or.inr ⟨q, hq, by rw [pl_un (hne q 2 h1 pl_12)]; exact h1, h2, h3⟩
  · intro r' q hr' hq h hg
    exact hVE r' q hr' hq (h3 q h).2 hg
  · intro r' p hr' h1 h2 h
    obtain ⟨q, hq, hq3, hg, hp⟩ := hVX r' p hr' h1 h2 h
    exact ⟨q, hq, by rw [pl_un (hne q 3 hq3 pl_13)]; exact hq3, hg, hp⟩
/-! a row prewritten by a pending transaction: it is held -/
theorem pl_hold (H : pl_R nc nr nl nt ck bg S P M ph xs xp xq xg xv xf xl xc xh xw xz ym yf ys yp yq yl yg yv) {c t r : Nat} (hc : c < 8) (hm : M c = t + 1) (hp : ph c = 2) (hf : yf t = 2) (hr : r < nr) (hh : xh r = -1) (hs : yg (t * 8 + r) ≠ 0) :
    pl_R nc nr nl nt ck bg S P M ph xs xp xq (upd xg (c * 8 + r) 2) xv xf xl xc (upd xh r (nI (S t))) xw xz ym yf ys yp yq yl (upd yg (t * 8 + r) 2) yv := by
  obtain ⟨hSZ, hTS, hTI, hTP, hTJ, hTN, hTR, hT3, hCI, hCA, hCJ, hCG, hCF, hDF, hDL, hDC, hDN, hHE, hHX, hVE, hVX⟩ := H
  have hb : bg ≤ 32 ∧ nr ≤ 8 ∧ ck ≤ 64 := by unfold pl_SZ at hSZ; omega
  have hr8 : r < 8 := by omega
  have ht : t < bg := (hCA c t hc hm).1
  have hS : ∀ q, q < bg → S q < 2 ^ 31 := fun q hq => by have := (hTS q hq).2.2; omega
  have hne : ∀ q, yf q = 3 → q ≠ t := fun q h e => pl_23 (by rw [← h, e, hf])
  refine ⟨hSZ, hTS, hTI, hTP, hTJ, ?_, ?_, hT3, ?_, hCA, hCJ, ?_, ?_, hDF, hDL, hDC, hDN, ?_, ?_, ?_, ?_⟩
  · intro q h1 h2
    obtain ⟨a, b, d⟩ := hTN q h1 h2
    exact ⟨a, b, fun r' hr' => by rw [pl_c2 hr8 hr' (by omega)]; exact d r' hr'⟩
  · intro q r' hq h1 h2
    rw [pl_un (by omega)]
    exact hTR q r' hq h1 h2
  · intro c' hc' h
    obtain ⟨a, b, d, e⟩ := hCI c' hc' h
    exact ⟨a, b, d, fun r' hr' => by rw [pl_c2 hr8 hr' (fun z => by rw [z] at h; omega)]; exact e r' hr'⟩
  · intro c' q r' hc' h hr'
    by_cases e : c' = c
    · subst e
      have e : q = t := by omega
      subst e
      by_cases e' : r' = r
      · subst e'
        rw [pl_us, pl_us]
        exact ⟨rfl, fun _ => (hCG c' q r' hc' h hr').2 hs⟩
      · rw [pl_c3 e', pl_c3 e']
        exact hCG c' q r' hc' h hr'
    · have e2 : q ≠ t := fun z => e (hCJ c' c t hc' hc (by rw [← z]; exact h) hm)
      rw [pl_c2 hr8 hr' e, pl_c2 hr8 hr' e2]
      exact hCG c' q r' hc' h hr'
  · intro c' hc'
    by_cases e : c' = c
    · rw [e]
      exact Or.inr ⟨t, hm, Or.inr (Or.inl ⟨hp, Or.inl hf, (pl_ok2 (pl_cf hCF hc hm) hp).2⟩)⟩
    · rcases hCF c' hc' with h | ⟨q, h1, h⟩
      · exact Or.inl h
      · have e2 : q ≠ t := fun z => e (hCJ c' c t hc' hc (by rw [← z]; exact h1) hm)
        refine Or.inr ⟨q, h1, ?_⟩
        unfold pl_ok at h ⊢
        rcases h with ⟨a, b, d, h⟩ | h | h | h
        · exact Or.inl ⟨a, b, d, fun r' hr' => by rw [pl_c2 hr8 hr' e2]; exact h r' hr'⟩
        · exact Or.inr (Or.inl h)
        · exact Or.inr (Or.inr (Or.inl h))
        · exact Or.inr (Or.inr (Or.inr h))
  · intro r' q hr' hq h hg
    by_cases e : r' = r
    · subst e
      rw [pl_us]
      by_cases e2 : q = t
      · rw [e2]
      · rw [pl_c2 hr8 hr8 e2] at hg
        have z := hHE r' q hr' hq h hg
        rw [hh] at z
        exact absurd z.symm (pl_ne1 (hS q hq))
    · rw [pl_un e]
      rw [pl_un (by omega)] at hg
      exact hHE r' q hr' hq h hg
  · intro r' hr'
    by_cases e : r' = r
    · subst e
      exact Or.inr ⟨t, ht, hf, pl_us, pl_us⟩
    · rw [pl_un e]
      rcases hHX r' hr' with h | ⟨q, hq, h1, h2, h3⟩
      · exact Or.inl h
      · exact Or.inr ⟨q, hq, h1, by rw [pl_un (by omega)]; exact h2, h3⟩
  · intro r' q hr' hq h hg
    rw [pl_c2 hr8 hr' (hne q h)] at hg
    exact hVE r' q hr' hq h hg
  · intro r' p hr' h1 h2 h
    obtain ⟨q, hq, hq3, hg, hp⟩ := hVX r' p hr' h1 h2 h
    exact ⟨q, hq, hq3, by rw [pl_c2 hr8 hr' (hne q hq3)]; exact hg, hp⟩
/-! another stage for a row that has one, of a transaction that isn't pending: prewritten after a roll-back, committed -/
theorem pl_stg (H : pl_R nc nr nl nt ck bg S P M ph xs xp xq xg xv xf xl xc xh xw xz ym yf ys yp yq yl yg yv) {c t r : Nat} {x : Int32} (hc : c < 8) (hm : M c = t + 1) (hp : ¬ ph c = 1) (hf : ¬ yf t = 2) (hr : r < nr) (hs : yg (t * 8 + r) ≠ 0) (hx : x ≠ 0) :
    pl_R nc nr nl nt ck bg S P M ph xs xp xq (upd xg (c * 8 + r) x) xv xf xl xc xh xw xz ym yf ys yp yq yl (upd yg (t * 8 + r) x) yv := by
  obtain ⟨hSZ, hTS, hTI, hTP, hTJ, hTN, hTR, hT3, hCI, hCA, hCJ, hCG, hCF, hDF, hDL, hDC, hDN, hHE, hHX, hVE, hVX⟩ := H
  have hb : bg ≤ 32 ∧ nr ≤ 8 ∧ ck ≤ 64 := by unfold pl_SZ at hSZ; omega
  have hr8 : r < 8 := by omega
  have ht : t < bg := (hCA c t hc hm).1
  have hne : ∀ q, yf q = 2 → q ≠ t := fun q h e => hf (by rw [← e]; exact h)
  have hg0 : ∀ q r', upd yg (t * 8 + r) x (q * 8 + r') ≠ 0 ↔ yg (q * 8 + r') ≠ 0 := by
    intro q r'
    by_cases e : q * 8 + r' = t * 8 + r
    · rw [e, pl_us]; exact ⟨fun _ => hs, fun _ => hx⟩
    · rw [pl_un e]
  refine ⟨hSZ, hTS, hTI, hTP, hTJ, ?_, ?_, hT3, ?_, hCA, hCJ, ?_, ?_, hDF, hDL, hDC, hDN, ?_, ?_, ?_, ?_⟩
  · intro q h1 h2
    obtain ⟨a, b, d⟩ := hTN q h1 h2
    exact ⟨a, b, fun r' hr' => by rw [pl_c2 hr8 hr' (by omega)]; exact d r' hr'⟩
  · intro q r' hq h1 h2
    rw [pl_un (by omega)]
    exact hTR q r' hq h1 h2
  · intro c' hc' h
    obtain ⟨a, b, d, e⟩ := hCI c' hc' h
    exact ⟨a, b, d, fun r' hr' => by rw [pl_c2 hr8 hr' (fun z => by rw [z] at h; omega)]; exact e r' hr'⟩
  · intro c' q r' hc' h hr'
    by_cases e : c' = c
    · subst e
      have e : q = t := by omega
      subst e
      by_cases e' : r' = r
      · subst e'
        rw [pl_us, pl_us]
        exact ⟨rfl, fun _ => (hCG c' q r' hc' h hr').2 hs⟩
      · rw [pl_c3 e', pl_c3 e']
        exact hCG c' q r' hc' h hr'
    · have e2 : q ≠ t := fun z => e (hCJ c' c t hc' hc (by rw [← z]; exact h) hm)
      rw [pl_c2 hr8 hr' e, pl_c2 hr8 hr' e2]
      exact hCG c' q r' hc' h hr'
  · intro c' hc'
    rcases hCF c' hc' with h | ⟨q, h1, h⟩
    · exact Or.inl h
    · refine Or.inr ⟨q, h1, ?_⟩
      unfold pl_ok at h ⊢
      rcases h with ⟨a, b, d, h⟩ | h | h | h
      · have e2 : q ≠ t := fun z => hp (by rw [hCJ c c' t hc hc' hm (by rw [← z]; exact h1)]; exact a)
        exact Or.inl ⟨a, b, d, fun r' hr' => by rw [pl_c2 hr8 hr' e2]; exact h r' hr'⟩
      · exact Or.inr (Or.inl h)
      · exact Or.inr (Or.inr (Or.inl h))
      · exact Or.inr (Or.inr (Or.inr h))
  · intro r' q hr' hq h hg
    rw [pl_c2 hr8 (by omega) (hne q h)] at hg
    exact hHE r' q hr' hq h hg
  · intro r' hr'
    rcases hHX r' hr' with h | ⟨q, hq, h1, h2, h3⟩
    · exact Or.inl h
    · exact Or.inr ⟨q, hq, h1, by rw [pl_c2 hr8 (by omega) (hne q h1)]; exact h2, h3⟩
  · intro r' q hr' hq h hg
    exact hVE r' q hr' hq h ((hg0 q r').mp hg)
  · intro r' p hr' h1 h2 h
    obtain ⟨q, hq, hq3, hg, hp⟩ := hVX r' p hr' h1 h2 h
    exact ⟨q, hq, hq3, (hg0 q r').mpr hg, hp⟩
/-! a stamp is drawn -/
theorem pl_stamp (H : pl_R nc nr nl nt ck bg S P M ph xs xp xq xg xv xf xl xc xh xw xz ym yf ys yp yq yl yg yv) {c t : Nat} (hc : c < 8) (hm : M c = t + 1) (hp : ph c = 2) :
    pl_R nc nr nl nt (ck + 1) bg S (pl_nu P t (ck + 1)) M (upd ph c 3) xs (upd xp c (nI (ck + 1))) xq xg xv xf xl xc xh xw xz ym yf ys (upd yp t (nI (ck + 1))) yq yl yg yv := by
  obtain ⟨hSZ, hTS, hTI, hTP, hTJ, hTN, hTR, hT3, hCI, hCA, hCJ, hCG, hCF, hDF, hDL, hDC, hDN, hHE, hHX, hVE, hVX⟩ := H
  have hb : bg ≤ 32 ∧ nr ≤ 8 ∧ ck ≤ 64 := by unfold pl_SZ at hSZ; omega
  have ht : t < bg := (hCA c t hc hm).1
  obtain ⟨hf, hP⟩ := pl_ok2 (pl_cf hCF hc hm) hp
  have hne : ∀ q, yf q = 3 → q ≠ t := by
    intro q h e
    rw [e] at h
    rcases hf with z | z
    · rw [z] at h; exact pl_23 h
    · rw [z] at h; exact pl_43 h
  refine ⟨?_, ?_, hTI, ?_, ?_, ?_, hTR, ?_, ?_, ?_, hCJ, hCG, ?_, hDF, hDL, ?_, hDN, hHE, hHX, ?_, ?_⟩
  · have z := pl_zc_lo (x := ck + 1) hP (by omega) bg ht
    unfold pl_SZ at hSZ ⊢
    omega
  · intro q hq
    obtain ⟨a, b, d⟩ := hTS q hq
    exact ⟨a, b, by omega⟩
  · intro q hq
    by_cases e : q = t
    · rw [e, pl_us, pl_ns]; exact ⟨rfl, Nat.le_refl _⟩
    · rw [pl_un e, pl_nn e]
      obtain ⟨a, b⟩ := hTP q hq
      exact ⟨a, by omega⟩
  · intro q q' hq hq' h
    by_cases e : q = t
    · by_cases e' : q' = t
      · exact Or.inr (by omega)
      · rw [e, pl_ns, pl_nn e'] at h
        have := (hTP q' hq').2
        omega
    · by_cases e' : q' = t
      · rw [e', pl_ns, pl_nn e] at h
        have := (hTP q hq).2
        omega
      · rw [pl_nn e, pl_nn e'] at h
        rw [pl_nn e]
        exact hTJ q q' hq hq' h
  · intro q h1 h2
    rw [pl_nn (by omega)]
    exact hTN q h1 h2
  · intro q hq h
    rw [pl_nn (hne q h)]
    exact hT3 q hq h
  · intro c' hc' h
    rw [pl_un (fun z => by rw [z] at h; omega)]
    exact hCI c' hc' h
  · intro c' q hc' h
    by_cases e : c' = c
    · subst e
      have e : q = t := by omega
      subst e
      obtain ⟨a, b, d, _, f⟩ := hCA c' q hc' h
      rw [pl_us, pl_ns, if_neg (by omega)]
      exact ⟨a, b, d, rfl, f⟩
    · have e2 : q ≠ t := fun z => e (hCJ c' c t hc' hc (by rw [← z]; exact h) hm)
      rw [pl_un e, pl_nn e2]
      exact hCA c' q hc' h
  · intro c' hc'
    by_cases e : c' = c
    · rw [e]
      exact Or.inr ⟨t, hm, Or.inr (Or.inr (Or.inl ⟨pl_us, hf, by rw [pl_ns]; omega⟩))⟩
    · rcases hCF c' hc' with h | ⟨q, h1, h⟩
      · exact Or.inl (by rw [pl_un e]; exact h)
      · have e2 : q ≠ t := fun z => e (hCJ c' c t hc' hc (by rw [← z]; exact h1) hm)
        refine Or.inr ⟨q, h1, ?_⟩
        unfold pl_ok at h ⊢
        rw [pl_un e, pl_nn e2]
        exact h
  · intro q hq h
    rw [pl_nn (hne q h)]
    exact hDC q hq h
  · intro r q hr hq h hg
    rw [pl_nn (hne q h)]
    exact hVE r q hr hq h hg
  · intro r p hr h1 h2 h
    obtain ⟨q, hq, hq3, hg, hp⟩ := hVX r p hr h1 h2 h
    exact ⟨q, hq, hq3, hg, by rw [pl_nn (hne q hq3)]; exact hp⟩
end PLC
