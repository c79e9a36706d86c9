section PLE
variable {nc nr nl nt ck bg : Nat} {S P M : Nat → Nat} {ph xs xp xq xg xv xf xl xc xh xw xz ym yf ys yp yq yl yg yv : Nat → Int32}
/-! what the relation says where the two sides look a thing up -/
theorem pl_b (H : pl_R nc nr nl nt ck bg S P M ph xs xp xq xg xv xf xl xc xh xw xz ym yf ys yp yq yl yg yv) :
    1 ≤ nc ∧ nc ≤ 8 ∧ 2 ≤ nr ∧ nr ≤ 8 ∧ 1 ≤ nl ∧ nl ≤ 100 ∧ 8 ≤ nt ∧ nt ≤ 32 ∧ bg ≤ nt ∧ ck ≤ 2 * bg := by
  have h := H.1
  unfold pl_SZ at h
  omega
/-- a client: idle, or with a transaction -/
theorem pl_cl (H : pl_R nc nr nl nt ck bg S P M ph xs xp xq xg xv xf xl xc xh xw xz ym yf ys yp yq yl yg yv) {c : Nat} (hc : c < 8) :
    (M c = 0 ∧ ph c = 0 ∧ xs c = -1 ∧ xp c = -1 ∧ xq c = -1 ∧ ∀ r, r < 8 → xg (c * 8 + r) = 0) ∨
    ∃ t, M c = t + 1 ∧ t < bg ∧ ¬ ph c = 0 ∧ ym c = nI t ∧ xs c = nI (S t) ∧ ys t = nI (S t) ∧ 1 ≤ S t ∧ S t ≤ 64 ∧ xf (S t) = yf t ∧ pl_ok ph yf yg P c t ∧ xq c = yq t ∧ (yq t = -1 ∨ ¬ yq t < 0) ∧
      (∀ r, r < 8 → xg (c * 8 + r) = yg (t * 8 + r) ∧ (yg (t * 8 + r) ≠ 0 → xv (c * 8 + r) = yv (t * 8 + r))) ∧ xp c = (if P t = 0 then -1 else nI (P t)) ∧ yp t = nI (P t) ∧ P t ≤ 64 := by
  have hb := pl_b H
  obtain ⟨hSZ, hTS, hTI, hTP, hTJ, hTN, hTR, hT3, hCI, hCA, hCJ, hCG, hCF, hDF, hDL, hDC, hDN, hHE, hHX, hVE, hVX⟩ := H
  rcases hCF c hc with h | ⟨t, h1, h⟩
  · obtain ⟨a, b, d, e⟩ := hCI c hc h.1
    exact Or.inl ⟨h.1, h.2, a, b, d, e⟩
  · obtain ⟨a, b, d, e, f, g⟩ := hCA c t hc h1
    obtain ⟨s1, s2, s3⟩ := hTS t a
    obtain ⟨p1, p2⟩ := hTP t (by omega)
    refine Or.inr ⟨t, h1, a, ?_, b, d, s1, s2, by omega, hDF t a, h, f, g, fun r hr => hCG c t r hc h1 hr, e, p1, by omega⟩
    intro z
    unfold pl_ok at h
    rw [z] at h
    rcases h with h | h | h | h
    · exact absurd h.1 (by decide)
    · exact absurd h.1 (by decide)
    · exact absurd h.1 (by decide)
    · exact absurd h.1 (by decide)
/-- the newest version of a row up to a time -/
theorem pl_new (H : pl_R nc nr nl nt ck bg S P M ph xs xp xq xg xv xf xl xc xh xw xz ym yf ys yp yq yl yg yv) {r : Nat} (hr : r < 8) (A : Nat → Prop) :
    (∃ t, t < bg ∧ yf t = 3 ∧ yg (t * 8 + r) ≠ 0 ∧ A (P t) ∧ 1 ≤ P t ∧ P t ≤ 64 ∧ yp t = nI (P t) ∧ xw (r * 65 + P t) ≠ 0 ∧ xz (r * 65 + P t) = yv (t * 8 + r) ∧
      (∀ q, P t < q → q ≤ 64 → A q → xw (r * 65 + q) = 0) ∧ (∀ t', t' < 32 → yf t' = 3 → yg (t' * 8 + r) ≠ 0 → A (P t') → t' ≠ t → P t' < P t)) ∨
    ((∀ q, 1 ≤ q → q ≤ 64 → A q → xw (r * 65 + q) = 0) ∧ (∀ t', t' < 32 → yf t' = 3 → yg (t' * 8 + r) ≠ 0 → ¬ A (P t'))) := by
  have hb := pl_b H
  obtain ⟨hSZ, hTS, hTI, hTP, hTJ, hTN, hTR, hT3, hCI, hCA, hCJ, hCG, hCF, hDF, hDL, hDC, hDN, hHE, hHX, hVE, hVX⟩ := H
  have h1 : ∀ t', t' < 32 → yf t' = 3 → yg (t' * 8 + r) ≠ 0 → t' < bg ∧ 1 ≤ P t' ∧ P t' ≤ 64 ∧ xw (r * 65 + P t') = 1 ∧ xz (r * 65 + P t') = yv (t' * 8 + r) := by
    intro t' l h g
    have lt : t' < bg := by
      by_cases z : t' < bg
      · exact z
      · have := (hTN t' (by omega) l).1
        rw [h] at this
        exact absurd this (by decide)
    have a := hT3 t' l h
    have b := (hTP t' l).2
    have d := hVE r t' hr lt h g
    exact ⟨lt, by omega, by omega, d.1, d.2⟩
  have n10 : ¬ (1 : Int32) = 0 := by decide
  rcases pl_great (fun p => A p ∧ xw (r * 65 + p) ≠ 0) 64 with ⟨p, l1, l2, ⟨hA, hw⟩, hm⟩ | hm
  · obtain ⟨t, ht, hf, hg, hP⟩ := hVX r p hr l1 l2 hw
    subst hP
    obtain ⟨_, _, _, e1, e2⟩ := h1 t (by omega) hf hg
    refine Or.inl ⟨t, ht, hf, hg, hA, l1, l2, (hTP t (by omega)).1, hw, e2, ?_, ?_⟩
    · intro q lq lq' hq
      by_cases z : xw (r * 65 + q) = 0
      · exact z
      · exact absurd ⟨hq, z⟩ (hm q lq lq')
    · intro t' lt' hf' hg' hA' ne
      obtain ⟨b1, b2, b3, b4, _⟩ := h1 t' lt' hf' hg'
      rcases Nat.lt_trichotomy (P t') (P t) with z | z | z
      · exact z
      · rcases hTJ t' t lt' (by omega) z with y | y
        · omega
        · exact absurd y ne
      · exact absurd ⟨hA', by rw [b4]; exact n10⟩ (hm (P t') z b3)
  · refine Or.inr ⟨?_, ?_⟩
    · intro q lq lq' hq
      by_cases z : xw (r * 65 + q) = 0
      · exact z
      · exact absurd ⟨hq, z⟩ (hm q lq lq')
    · intro t' lt' hf' hg' hA'
      obtain ⟨b1, b2, b3, b4, _⟩ := h1 t' lt' hf' hg'
      exact hm (P t') b2 b3 ⟨hA', by rw [b4]; exact n10⟩
/-- who holds a row -/
theorem pl_hd (H : pl_R nc nr nl nt ck bg S P M ph xs xp xq xg xv xf xl xc xh xw xz ym yf ys yp yq yl yg yv) {r : Nat} (hr : r < nr) :
    (xh r = -1 ∧ ∀ t, t < 32 → yf t = 2 → ¬ yg (t * 8 + r) = 2) ∨
    ∃ t, t < bg ∧ yf t = 2 ∧ yg (t * 8 + r) = 2 ∧ xh r = nI (S t) ∧ ys t = nI (S t) ∧ 1 ≤ S t ∧ S t ≤ 64 ∧ xl (S t) = yl t ∧ (∀ t', t' < 32 → yf t' = 2 → yg (t' * 8 + r) = 2 → t' = t) := by
  have hb := pl_b H
  obtain ⟨hSZ, hTS, hTI, hTP, hTJ, hTN, hTR, hT3, hCI, hCA, hCJ, hCG, hCF, hDF, hDL, hDC, hDN, hHE, hHX, hVE, hVX⟩ := H
  have hlt : ∀ t', t' < 32 → yf t' = 2 → t' < bg := by
    intro t' l h
    by_cases z : t' < bg
    · exact z
    · have := (hTN t' (by omega) l).1
      rw [h] at this
      exact absurd this (by decide)
  have hS : ∀ q, q < bg → S q < 2 ^ 31 := fun q hq => by have := (hTS q hq).2.2; omega
  rcases hHX r hr with h | ⟨t, ht, h1, h2, h3⟩
  · refine Or.inl ⟨h, fun t l f g => ?_⟩
    have lt := hlt t l f
    have z := hHE r t hr lt f g
    rw [h] at z
    exact pl_ne1 (hS t lt) z.symm
  · obtain ⟨s1, s2, s3⟩ := hTS t ht
    refine Or.inr ⟨t, ht, h1, h2, h3, s1, s2, by omega, hDL t ht h1, fun t' l f g => ?_⟩
    have lt := hlt t' l f
    have z := hHE r t' hr lt f g
    rw [h3] at z
    by_cases e : t' = t
    · exact e
    · exact absurd (pl_im z (hS t ht) (hS t' lt)).symm (pl_Sj hTI lt ht e)
/-- a start timestamp -/
theorem pl_fd (H : pl_R nc nr nl nt ck bg S P M ph xs xp xq xg xv xf xl xc xh xw xz ym yf ys yp yq yl yg yv) (s : Int32) :
    (∃ t, t < bg ∧ s = nI (S t) ∧ 1 ≤ S t ∧ S t ≤ 64 ∧ xf (S t) = yf t ∧ (yf t = 2 → xl (S t) = yl t) ∧ (yf t = 3 → xc (S t) = yp t) ∧ ys t = s ∧ (∀ t', t' < 32 → ¬ yf t' = 0 → ys t' = s → t' = t)) ∨
    ((∀ j, 1 ≤ j → j ≤ 64 → s = nI j → xf j = 0) ∧ (∀ t', t' < 32 → ¬ yf t' = 0 → ¬ ys t' = s)) := by
  have hb := pl_b H
  obtain ⟨hSZ, hTS, hTI, hTP, hTJ, hTN, hTR, hT3, hCI, hCA, hCJ, hCG, hCF, hDF, hDL, hDC, hDN, hHE, hHX, hVE, hVX⟩ := H
  have hlt : ∀ t', t' < 32 → ¬ yf t' = 0 → t' < bg := by
    intro t' l h
    by_cases z : t' < bg
    · exact z
    · exact absurd (hTN t' (by omega) l).1 h
  have hS : ∀ q, q < bg → S q < 2 ^ 31 := fun q hq => by have := (hTS q hq).2.2; omega
  by_cases h : ∃ t, t < bg ∧ s = nI (S t)
  · obtain ⟨t, ht, hs⟩ := h
    obtain ⟨s1, s2, s3⟩ := hTS t ht
    refine Or.inl ⟨t, ht, hs, s2, by omega, hDF t ht, hDL t ht, fun f => ?_, by rw [hs]; exact s1, fun t' l f e => ?_⟩
    · rw [hDC t ht f]; exact (hTP t (by omega)).1.symm
    · have lt := hlt t' l f
      rw [(hTS t' lt).1, hs] at e
      by_cases z : t' = t
      · exact z
      · exact absurd (pl_im e (hS t' lt) (hS t ht)) (pl_Sj hTI lt ht z)
  · refine Or.inr ⟨fun j l1 l2 e => ?_, fun t' l f e => ?_⟩
    · exact hDN j l1 l2 fun t ht z => h ⟨t, ht, by rw [z]; exact e⟩
    · have lt := hlt t' l f
      exact h ⟨t', lt, by rw [← e]; exact (hTS t' lt).1⟩
end PLE
