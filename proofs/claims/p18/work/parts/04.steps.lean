section PLD
variable {nc nr nl nt ck bg : Nat} {S P M : Nat → Nat} {ph xs xp xq xg xv xf xl xc xh xw xz ym yf ys yp yq yl yg yv : Nat → Int32}
/-! the primary is committed -/
theorem pl_comm (H : pl_R nc nr nl nt ck bg S P M ph xs xp xq xg xv xf xl xc xh xw xz ym yf ys yp yq yl yg yv) {c t : Nat} (hc : c < 8) (hm : M c = t + 1) (hp : ph c = 3) (hf : yf t = 2) {xw' xz' : Nat → Int32}
    (hw : ∀ r p, r < 8 → p < 65 → xw' (r * 65 + p) = if r < nr ∧ p = P t ∧ xg (c * 8 + r) ≠ 0 then 1 else xw (r * 65 + p))
    (hz : ∀ r p, r < 8 → p < 65 → xz' (r * 65 + p) = if r < nr ∧ p = P t ∧ xg (c * 8 + r) ≠ 0 then xv (c * 8 + r) else xz (r * 65 + p)) :
    pl_R nc nr nl nt ck bg S P M (upd ph c 4) xs xp xq xg xv (upd xf (S t) 3) xl (upd xc (S t) (nI (P t))) (pl_eh nr (nI (S t)) xh) xw' xz' ym (upd yf t 3) ys yp yq yl yg yv := by
  obtain ⟨hSZ, hTS, hTI, hTP, hTJ, hTN, hTR, hT3, hCI, hCA, hCJ, hCG, hCF, hDF, hDL, hDC, hDN, hHE, hHX, hVE, hVX⟩ := H
  have hb : bg ≤ 32 ∧ nr ≤ 8 ∧ ck ≤ 64 := by unfold pl_SZ at hSZ; omega
  have ht : t < bg := (hCA c t hc hm).1
  have hP : P t ≠ 0 := (pl_ok3 (pl_cf hCF hc hm) hp).2
  have hS : ∀ q, q < bg → S q < 2 ^ 31 := fun q hq => by have := (hTS q hq).2.2; omega
  have hPl : ∀ q, q < bg → P q < 65 := fun q hq => by have := (hTP q (by omega)).2; omega
  have hn : ∀ q, q < bg → q ≠ t → nI (S q) ≠ nI (S t) := fun q hq e z => pl_Sj hTI hq ht e (pl_im z (hS q hq) (hS t ht))
  have h2 : ∀ q, upd yf t 3 q = 2 → q ≠ t ∧ yf q = 2 := by
    intro q h
    by_cases e : q = t
    · rw [e, pl_us] at h; exact absurd h pl_32
    · rw [pl_un e] at h; exact ⟨e, h⟩
  refine ⟨hSZ, hTS, hTI, hTP, hTJ, ?_, hTR, ?_, hCI, hCA, hCJ, hCG, ?_, ?_, ?_, ?_, ?_, ?_, ?_, ?_, ?_⟩
  · intro q h1 h2
    rw [pl_un (by omega)]
    exact hTN q h1 h2
  · intro q hq h
    by_cases e : q = t
    · rw [e]; exact hP
    · rw [pl_un e] at h; exact hT3 q hq h
  · intro c' hc'
    by_cases e : c' = c
    · rw [e]
      exact Or.inr ⟨t, hm, Or.inr (Or.inr (Or.inr ⟨pl_us, pl_us⟩))⟩
    · rcases hCF c' hc' with h | ⟨q, h1, h⟩
      · exact Or.inl (by rw [pl_un e]; exact h)
      · have e2 : q ≠ t := fun z => e (hCJ c' c t hc' hc (by rw [← z]; exact h1) hm)
        refine Or.inr ⟨q, h1, ?_⟩
        unfold pl_ok at h ⊢
        rw [pl_un e, pl_un e2]
        exact h
  · intro q hq
    by_cases e : q = t
    · rw [e, pl_us, pl_us]
    · rw [pl_un e, pl_un (pl_Sj hTI hq ht e)]; exact hDF q hq
  · intro q hq h
    exact hDL q hq (h2 q h).2
  · intro q hq h
    by_cases e : q = t
    · rw [e, pl_us]
    · rw [pl_un e] at h
      rw [pl_un (pl_Sj hTI hq ht e)]; exact hDC q hq h
  · intro s h1 h2 h
    rw [pl_un (fun e => h t ht e.symm)]
    exact hDN s h1 h2 h
  · intro r q hr hq h hg
    obtain ⟨e, h⟩ := h2 q h
    have z := hHE r q hr hq h hg
    rw [pl_eh_o (by rw [z]; exact hn q hq e)]
    exact z
  · intro r hr
    by_cases z : xh r = nI (S t)
    · exact Or.inl (pl_eh_i hr z)
    · rw [pl_eh_o z]
      rcases hHX r hr with h | ⟨q, hq, h1, h2, h3⟩
      · exact Or.inl h
      · have e : q ≠ t := fun e => z (by rw [h3, e])
        exact Or.inr ⟨q, hq, by rw [pl_un e]; exact h1, h2, h3⟩
  · intro r q hr hq h hg
    rw [hw r (P q) hr (hPl q hq), hz r (P q) hr (hPl q hq)]
    by_cases e : q = t
    · subst e
      have g := hCG c q r hc hm hr
      have hn8 : r < nr := by
        by_cases l : r < nr
        · exact l
        · exact absurd (hTR q r (by omega) (by omega) hr) hg
      have cd : r < nr ∧ P q = P q ∧ xg (c * 8 + r) ≠ 0 := ⟨hn8, rfl, by rw [g.1]; exact hg⟩
      rw [if_pos cd, if_pos cd]
      exact ⟨rfl, g.2 hg⟩
    · rw [pl_un e] at h
      have p0 := hT3 q (by omega) h
      have ne : P q ≠ P t := fun z => by
        rcases hTJ q t (by omega) (by omega) z with a | a
        · exact p0 a
        · exact e a
      have cd : ¬ (r < nr ∧ P q = P t ∧ xg (c * 8 + r) ≠ 0) := fun z => ne z.2.1
      rw [if_neg cd, if_neg cd]
      exact hVE r q hr hq h hg
  · intro r p hr h1 h2 h
    rw [hw r p hr (by omega)] at h
    by_cases cd : r < nr ∧ p = P t ∧ xg (c * 8 + r) ≠ 0
    · exact ⟨t, ht, pl_us, by rw [← (hCG c t r hc hm hr).1]; exact cd.2.2, cd.2.1.symm⟩
    · rw [if_neg cd] at h
      obtain ⟨q, hq, hq3, hg, hpq⟩ := hVX r p hr h1 h2 h
      have e : q ≠ t := fun e => by rw [e, hf] at hq3; exact pl_23 hq3
      exact ⟨q, hq, by rw [pl_un e]; exact hq3, hg, hpq⟩
/-! leases -/
theorem pl_beat (H : pl_R nc nr nl nt ck bg S P M ph xs xp xq xg xv xf xl xc xh xw xz ym yf ys yp yq yl yg yv) {t : Nat} (ht : t < bg) :
    pl_R nc nr nl nt ck bg S P M ph xs xp xq xg xv xf (upd xl (S t) (nI nl)) xc xh xw xz ym yf ys yp yq (upd yl t (nI nl)) yg yv := by
  obtain ⟨hSZ, hTS, hTI, hTP, hTJ, hTN, hTR, hT3, hCI, hCA, hCJ, hCG, hCF, hDF, hDL, hDC, hDN, hHE, hHX, hVE, hVX⟩ := H
  refine ⟨hSZ, hTS, hTI, hTP, hTJ, hTN, hTR, hT3, hCI, hCA, hCJ, hCG, hCF, hDF, ?_, hDC, hDN, hHE, hHX, hVE, hVX⟩
  intro q hq h
  by_cases e : q = t
  · rw [e, pl_us, pl_us]
  · rw [pl_un e, pl_un (pl_Sj hTI hq ht e)]; exact hDL q hq h
def pl_lz (n x : Int32) : Int32 := if x ≤ n then 0 else x - n
def pl_xt (n : Int32) (xf xl : Nat → Int32) (i : Nat) : Nat → Int32 := fun s => if 1 ≤ s ∧ s < i ∧ xf s = 2 then pl_lz n (xl s) else xl s
def pl_yt (n : Int32) (yf yl : Nat → Int32) (i : Nat) : Nat → Int32 := fun t => if t < i ∧ yf t = 2 then pl_lz n (yl t) else yl t
theorem pl_tick (H : pl_R nc nr nl nt ck bg S P M ph xs xp xq xg xv xf xl xc xh xw xz ym yf ys yp yq yl yg yv) (n : Int32) :
    pl_R nc nr nl nt ck bg S P M ph xs xp xq xg xv xf (pl_xt n xf xl 65) xc xh xw xz ym yf ys yp yq (pl_yt n yf yl 32) yg yv := by
  obtain ⟨hSZ, hTS, hTI, hTP, hTJ, hTN, hTR, hT3, hCI, hCA, hCJ, hCG, hCF, hDF, hDL, hDC, hDN, hHE, hHX, hVE, hVX⟩ := H
  have hb : bg ≤ 32 ∧ nr ≤ 8 ∧ ck ≤ 64 := by unfold pl_SZ at hSZ; omega
  refine ⟨hSZ, hTS, hTI, hTP, hTJ, hTN, hTR, hT3, hCI, hCA, hCJ, hCG, hCF, hDF, ?_, hDC, hDN, hHE, hHX, hVE, hVX⟩
  intro q hq h
  have l := hTS q hq
  have e1 : pl_xt n xf xl 65 (S q) = pl_lz n (xl (S q)) := if_pos ⟨l.2.1, by omega, by rw [hDF q hq]; exact h⟩
  have e2 : pl_yt n yf yl 32 q = pl_lz n (yl q) := if_pos ⟨by omega, h⟩
  rw [e1, e2, hDL q hq h]
theorem pl_xt_s {n : Int32} {xf xl : Nat → Int32} {i : Nat} (hi : 1 ≤ i) : pl_xt n xf xl (i + 1) = if xf i = 2 then upd (pl_xt n xf xl i) i (pl_lz n (xl i)) else pl_xt n xf xl i := by
  funext s
  by_cases h : xf i = 2
  · rw [if_pos h]
    by_cases e : s = i
    · rw [e, pl_us]
      exact if_pos ⟨hi, by omega, h⟩
    · rw [pl_un e]
      unfold pl_xt
      by_cases z : 1 ≤ s ∧ s < i ∧ xf s = 2
      · have z' : 1 ≤ s ∧ s < i + 1 ∧ xf s = 2 := ⟨z.1, by omega, z.2.2⟩
        rw [if_pos z, if_pos z']
      · have z' : ¬ (1 ≤ s ∧ s < i + 1 ∧ xf s = 2) := fun y => z ⟨y.1, by omega, y.2.2⟩
        rw [if_neg z, if_neg z']
  · rw [if_neg h]
    unfold pl_xt
    by_cases e : s = i
    · have z : ¬ (1 ≤ s ∧ s < i ∧ xf s = 2) := fun y => by omega
      have z' : ¬ (1 ≤ s ∧ s < i + 1 ∧ xf s = 2) := fun y => by
        have w := y.2.2
        rw [e] at w
        exact h w
      rw [if_neg z, if_neg z']
    · by_cases z : 1 ≤ s ∧ s < i ∧ xf s = 2
      · have z' : 1 ≤ s ∧ s < i + 1 ∧ xf s = 2 := ⟨z.1, by omega, z.2.2⟩
        rw [if_pos z, if_pos z']
      · have z' : ¬ (1 ≤ s ∧ s < i + 1 ∧ xf s = 2) := fun y => z ⟨y.1, by omega, y.2.2⟩
        rw [if_neg z, if_neg z']
theorem pl_xt_i {n : Int32} {xf xl : Nat → Int32} {i : Nat} : pl_xt n xf xl i i = xl i := if_neg fun z => Nat.lt_irrefl i z.2.1
theorem pl_xt_1 {n : Int32} {xf xl : Nat → Int32} : pl_xt n xf xl 1 = xl := by
  funext s
  exact if_neg fun z => by omega
theorem pl_yt_s {n : Int32} {yf yl : Nat → Int32} {i : Nat} : pl_yt n yf yl (i + 1) = if yf i = 2 then upd (pl_yt n yf yl i) i (pl_lz n (yl i)) else pl_yt n yf yl i := by
  funext s
  by_cases h : yf i = 2
  · rw [if_pos h]
    by_cases e : s = i
    · rw [e, pl_us]
      exact if_pos ⟨by omega, h⟩
    · rw [pl_un e]
      unfold pl_yt
      by_cases z : s < i ∧ yf s = 2
      · have z' : s < i + 1 ∧ yf s = 2 := ⟨by omega, z.2⟩
        rw [if_pos z, if_pos z']
      · have z' : ¬ (s < i + 1 ∧ yf s = 2) := fun y => z ⟨by omega, y.2⟩
        rw [if_neg z, if_neg z']
  · rw [if_neg h]
    unfold pl_yt
    by_cases e : s = i
    · have z : ¬ (s < i ∧ yf s = 2) := fun y => by omega
      have z' : ¬ (s < i + 1 ∧ yf s = 2) := fun y => by
        have w := y.2
        rw [e] at w
        exact h w
      rw [if_neg z, if_neg z']
    · by_cases z : s < i ∧ yf s = 2
      · have z' : s < i + 1 ∧ yf s = 2 := ⟨by omega, z.2⟩
        rw [if_pos z, if_pos z']
      · have z' : ¬ (s < i + 1 ∧ yf s = 2) := fun y => z ⟨by omega, y.2⟩
        rw [if_neg z, if_neg z']
theorem pl_yt_i {n : Int32} {yf yl : Nat → Int32} {i : Nat} : pl_yt n yf yl i i = yl i := if_neg fun z => Nat.lt_irrefl i z.1
theorem pl_yt_0 {n : Int32} {yf yl : Nat → Int32} : pl_yt n yf yl 0 = yl := by
  funext s
  exact if_neg fun z => by omega
/-! the start -/
theorem pl_start {nc nr nl nt : Nat} (h1 : 1 ≤ nc ∧ nc ≤ 8) (h2 : 2 ≤ nr ∧ nr ≤ 8) (h3 : 1 ≤ nl ∧ nl ≤ 100) (h4 : 8 ≤ nt ∧ nt ≤ 32) {ph xs xp xq xg xh : Nat → Int32}
    (e0 : ∀ c, c < 8 → ph c = 0) (e1 : ∀ c, c < 8 → xs c = -1) (e2 : ∀ c, c < 8 → xp c = -1) (e3 : ∀ c, c < 8 → xq c = -1) (e4 : ∀ j, j < 64 → xg j = 0) (e5 : ∀ r, r < 8 → xh r = -1) (xv xl xc xz ym ys yq yl yv : Nat → Int32) :
    pl_R nc nr nl nt 0 0 (fun _ => 0) (fun _ => 0) (fun _ => 0) ph xs xp xq xg xv (fun _ => 0) xl xc xh (fun _ => 0) xz ym (fun _ => 0) ys (fun _ => 0) yq yl (fun _ => 0) yv := by
  refine ⟨?_, ?_, ?_, ?_, ?_, ?_, ?_, ?_, ?_, ?_, ?_, ?_, ?_, ?_, ?_, ?_, ?_, ?_, ?_, ?_, ?_⟩
  · have z : pl_zc (fun _ => 0) 0 = 0 := rfl
    unfold pl_SZ
    omega
  · intro t h; omega
  · intro t t' h h'; omega
  · intro t h; exact ⟨nI_0.symm, Nat.le_refl _⟩
  · intro t t' h h' e; exact Or.inl rfl
  · intro t h h'; exact ⟨rfl, rfl, fun _ _ => rfl⟩
  · intro t r h h' h''; rfl
  · intro t h e
    have e' : (0 : Int32) = 3 := e
    exact absurd e' (by decide)
  · intro c h e; exact ⟨e1 c h, e2 c h, e3 c h, fun r hr => e4 _ (by omega)⟩
  · intro c t h e
    have e' : 0 = t + 1 := e
    omega
  · intro c c' t h h' e
    have e' : 0 = t + 1 := e
    omega
  · intro c t r h e
    have e' : 0 = t + 1 := e
    omega
  · intro c h; exact Or.inl ⟨rfl, e0 c h⟩
  · intro t h; omega
  · intro t h; omega
  · intro t h; omega
  · intro s h1 h2 h; rfl
  · intro r t h h'; omega
  · intro r h; exact Or.inl (e5 r (by omega))
  · intro r t h h'; omega
  · intro r p h h1 h2 e; exact absurd rfl e
end PLD
