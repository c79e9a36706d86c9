section LWD
variable {nc nr nl nt ck bg : Nat} {S P M : Nat → Nat} {ph xs xp xq xg xv xf xl xc xh xw xz ym yf ys yp yq yl yg yv : Nat → Int32}
variable {w0 w1 w2 w3 o0 o1 o2 o3 cu rm be st : Int64}
theorem lw_i_idle {c : Nat} (HI : lw_I nc nr nt ck bg S P M yf yg yv w0 w1 w2 w3 o0 o1 o2 o3 cu rm be st) : lw_I nc nr nt ck bg S P (pl_nu M c 0) yf yg yv w0 w1 w2 w3 o0 o1 o2 o3 cu rm be st := by
  obtain ⟨i1, i2, i3, iB, iST, iCU, iWW, iOO, iRM, iK⟩ := HI
  refine ⟨i1, i2, i3, iB, iST, ?_, iWW, iOO, iRM, iK⟩
  intro c' t hc h
  by_cases e : c' = c
  · rw [e, pl_ns] at h; omega
  · rw [pl_nn e] at h; exact iCU c' t hc h
theorem lw_i_fate {t : Nat} {y : Int32} (HI : lw_I nc nr nt ck bg S P M yf yg yv w0 w1 w2 w3 o0 o1 o2 o3 cu rm be st) (hf : yf t = 2 ∨ P t = 0) (hy : y = 2 ∨ y = 3 ∨ y = 4) (h2 : y = 2 → P t = 0) (h3 : ¬ yf t = 3) : lw_I nc nr nt ck bg S P M (upd yf t y) yg yv w0 w1 w2 w3 o0 o1 o2 o3 cu rm be st := by
  obtain ⟨i1, i2, i3, iB, iST, iCU, iWW, iOO, iRM, iK⟩ := HI
  refine ⟨i1, i2, i3, iB, iST, iCU, iWW, iOO, ?_, ?_⟩
  · intro r hr
    refine ⟨(iRM r hr).1, fun q lq f p g => ?_⟩
    by_cases e : q = t
    · rw [e, pl_us] at f
      rw [e] at p
      exact absurd (h2 f) p
    · rw [pl_un e] at f
      exact (iRM r hr).2 q lq f p g
  · intro q lq
    obtain ⟨k1, k2, k3, k4⟩ := iK q lq
    by_cases e : q = t
    · subst e
      rw [pl_us]
      refine ⟨Or.inr hy, k2, fun r hr _ => k3 r hr h3, fun f p => ?_⟩
      exact absurd (h2 f) p
    · rw [pl_un e]
      exact ⟨k1, k2, k3, k4⟩
theorem lw_i_beg (H : pl_R nc nr nl nt ck bg S P M ph xs xp xq xg xv xf xl xc xh xw xz ym yf ys yp yq yl yg yv) {c : Nat} (hc : c < nc) (hbt : bg < nt) (HI : lw_I nc nr nt ck bg S P M yf yg yv w0 w1 w2 w3 o0 o1 o2 o3 cu rm be st) : lw_I nc nr nt (ck + 1) (bg + 1) (pl_nu S bg (ck + 1)) P (pl_nu M c (bg + 1)) (upd yf bg 1) yg yv w0 w1 w2 w3 o0 o1 o2 o3 (pb_put cu (8 * c) 8 (ck + 1)) rm (be ||| ((1 : Int64) <<< ((nI (ck + 1)).toInt64 &&& 63))) st := by
  have hb := pl_b H
  obtain ⟨i1, i2, i3, iB, iST, iCU, iWW, iOO, iRM, iK⟩ := HI
  obtain ⟨n1, n2, n3⟩ := H.2.2.2.2.2.1 bg (Nat.le_refl bg) (by omega)
  have hTS : ∀ t, t < bg → ys t = nI (S t) ∧ 1 ≤ S t ∧ S t ≤ ck := H.2.1
  have hCA := H.2.2.2.2.2.2.2.2.2.1
  have hSo : ∀ q, q < bg → pl_nu S bg (ck + 1) q = S q := fun q hq => pl_nn (by omega)
  refine ⟨i1, i2, i3, ?_, ?_, ?_, ?_, ?_, ?_, ?_⟩
  · intro s hs
    rw [pb_set _ (by omega) hs]
    by_cases e : s = ck + 1
    · subst e
      simp only [decide_true, Bool.or_true, true_iff]
      exact ⟨bg, by omega, pl_ns⟩
    · simp only [e, decide_false, Bool.or_false]
      rw [iB s hs]
      constructor
      · intro ⟨t, lt, h⟩
        exact ⟨t, by omega, by rw [hSo t lt]; exact h⟩
      · intro ⟨t, lt, h⟩
        by_cases z : t = bg
        · rw [z, pl_ns] at h; omega
        · rw [pl_nn z] at h; exact ⟨t, by omega, h⟩
  · refine ⟨fun t lt => ?_, fun s l1 l2 => iST.2 s (by omega) l2⟩
    by_cases z : t = bg
    · rw [z, pl_ns, iST.2 (ck + 1) (by omega) (by omega)]
      constructor
      · intro h; exact absurd h (by decide)
      · intro h; exact absurd n2 h
    · rw [pl_nn z]
      exact iST.1 t (by omega)
  · intro c' t hc' h
    by_cases e : c' = c
    · rw [e, pl_ns] at h
      have et : t = bg := by omega
      rw [e, et, pl_ns]
      exact pb_ps (by decide) (by omega) (by omega) (by decide)
    · rw [pl_nn e] at h
      have lt := (hCA c' t (by omega) h).1
      rw [hSo t lt, pb_pn (by decide) (by omega) (by omega) (by decide) (by omega) (by omega)]
      exact iCU c' t hc' h
  · refine ⟨fun r t hr lt => ?_, fun r s hr l1 l2 => iWW.2 r s hr (by omega) l2⟩
    by_cases z : t = bg
    · subst z
      rw [pl_ns, iWW.2 r (ck + 1) hr (by omega) (by omega), n3 r (by omega)]
      exact ⟨⟨fun _ => rfl, fun _ => rfl⟩, fun y => absurd rfl y⟩
    · rw [pl_nn z]
      exact iWW.1 r t hr (by omega)
  · refine ⟨fun t lt p => ?_, fun p l1 l2 h => ?_⟩
    · by_cases z : t = bg
      · rw [z] at p; exact absurd n2 p
      · rw [pl_nn z]; exact iOO.1 t (by omega) p
    · obtain ⟨t, lt, e⟩ := iOO.2 p l1 l2 h
      exact ⟨t, by omega, e⟩
  · intro r hr
    refine ⟨by have := (iRM r hr).1; omega, fun t lt f p g => ?_⟩
    by_cases z : t = bg
    · rw [z] at p; exact absurd n2 p
    · rw [pl_un z] at f; exact (iRM r hr).2 t (by omega) f p g
  · intro t lt
    by_cases z : t = bg
    · subst z
      rw [pl_us]
      refine ⟨Or.inl rfl, fun p => absurd n2 p, fun r hr _ => Or.inl (n3 r hr), fun f => absurd f (by decide)⟩
    · rw [pl_un z, pl_nn z]
      exact iK t (by omega)
theorem lw_i_put (H : pl_R nc nr nl nt ck bg S P M ph xs xp xq xg xv xf xl xc xh xw xz ym yf ys yp yq yl yg yv) {c t r q : Nat} {w0' w1' w2' w3' : Int64} (hc : c < nc) (hm : M c = t + 1) (hf : yf t = 1) (hr : r < nr) (q1 : 1 ≤ q) (q3 : q ≤ 3)
    (hW : ∀ r', r' < 4 → lw_W w0' w1' w2' w3' r' = if r' = r then pb_put (lw_W w0 w1 w2 w3 r) (2 * (S t - 1)) 2 q else lw_W w0 w1 w2 w3 r') (HI : lw_I nc nr nt ck bg S P M yf yg yv w0 w1 w2 w3 o0 o1 o2 o3 cu rm be st) :
    lw_I nc nr nt ck bg S P M yf (upd yg (t * 8 + r) 1) (upd yv (t * 8 + r) (lw_v q (S t) r)) w0' w1' w2' w3' o0 o1 o2 o3 cu rm be st := by
  have hb := pl_b H
  obtain ⟨i1, i2, i3, iB, iST, iCU, iWW, iOO, iRM, iK⟩ := HI
  have hTS : ∀ t, t < bg → ys t = nI (S t) ∧ 1 ≤ S t ∧ S t ≤ ck := H.2.1
  have lt : t < bg := (H.2.2.2.2.2.2.2.2.2.1 c t (by omega) hm).1
  have sS := hTS t lt
  have fld : ∀ r' s', r' < nr → 1 ≤ s' → s' ≤ 32 → (r' ≠ r ∨ s' ≠ S t) → pb_f (lw_W w0' w1' w2' w3' r') (2 * (s' - 1)) 2 = pb_f (lw_W w0 w1 w2 w3 r') (2 * (s' - 1)) 2 := by
    intro r' s' l1 l2 l3 h
    rw [hW r' (by omega)]
    by_cases e : r' = r
    · rw [if_pos e, e]
      exact pb_pn (by decide) (by omega) (by omega) (by decide) (by omega) (by omega)
    · rw [if_neg e]
  have here : pb_f (lw_W w0' w1' w2' w3' r) (2 * (S t - 1)) 2 = q := by
    rw [hW r (by omega), if_pos rfl]
    exact pb_ps (by decide) (by omega) (by omega) (by decide)
  refine ⟨i1, i2, i3, iB, iST, iCU, ?_, iOO, ?_, ?_⟩
  · refine ⟨fun r' t' hr' lt' => ?_, fun r' s' hr' l1 l2 => ?_⟩
    · have sS' := hTS t' lt'
      by_cases e : r' = r ∧ t' = t
      · obtain ⟨e1, e2⟩ := e
        subst e1
        subst e2
        rw [here, pl_us, pl_us]
        exact ⟨⟨fun y => by omega, fun y => absurd y (by decide)⟩, fun _ => rfl⟩
      · have ne : t' * 8 + r' ≠ t * 8 + r := by omega
        have hd : r' ≠ r ∨ S t' ≠ S t := by
          by_cases e1 : r' = r
          · exact Or.inr (pl_Sj H.2.2.1 lt' lt (fun e2 => e ⟨e1, e2⟩))
          · exact Or.inl e1
        rw [fld r' (S t') hr' (by omega) (by omega) hd, pl_un ne, pl_un ne]
        exact iWW.1 r' t' hr' lt'
    · rw [fld r' s' hr' (by omega) l2 (Or.inr (by omega))]
      exact iWW.2 r' s' hr' l1 l2
  · intro r' hr'
    refine ⟨(iRM r' hr').1, fun t' lt' f p g => ?_⟩
    have ne : t' ≠ t := fun e => by rw [e, hf] at f; exact absurd f (by decide)
    rw [pl_un (by omega)] at g
    exact (iRM r' hr').2 t' lt' f p g
  · intro t' lt'
    obtain ⟨k1, k2, k3, k4⟩ := iK t' lt'
    refine ⟨k1, k2, fun r' hr' f => ?_, fun f p r' hr' => ?_⟩
    · by_cases e : t' * 8 + r' = t * 8 + r
      · rw [e, pl_us]; exact Or.inr (Or.inl rfl)
      · rw [pl_un e]; exact k3 r' hr' f
    · have ne : t' ≠ t := fun e => by rw [e, hf] at f; exact absurd f (by decide)
      rw [pl_un (by omega)]
      exact k4 f p r' hr'
theorem lw_i_stg (H : pl_R nc nr nl nt ck bg S P M ph xs xp xq xg xv xf xl xc xh xw xz ym yf ys yp yq yl yg yv) {c t r : Nat} {x : Int32} (hc : c < nc) (hm : M c = t + 1) (hr : r < nr) (hg : ¬ yg (t * 8 + r) = 0) (hp : yf t = 2 → P t = 0) (hx : x = 2 ∨ (x = 3 ∧ yf t = 3)) (HI : lw_I nc nr nt ck bg S P M yf yg yv w0 w1 w2 w3 o0 o1 o2 o3 cu rm be st) :
    lw_I nc nr nt ck bg S P M yf (upd yg (t * 8 + r) x) yv w0 w1 w2 w3 o0 o1 o2 o3 cu rm be st := by
  have hb := pl_b H
  obtain ⟨i1, i2, i3, iB, iST, iCU, iWW, iOO, iRM, iK⟩ := HI
  have hx0 : ¬ x = 0 := by
    rcases hx with y | y
    · rw [y]; decide
    · rw [y.1]; decide
  have g0 : ∀ j, (upd yg (t * 8 + r) x j = 0 ↔ yg j = 0) := by
    intro j
    by_cases e : j = t * 8 + r
    · rw [e, pl_us]; exact ⟨fun y => absurd y hx0, fun y => absurd y hg⟩
    · rw [pl_un e]
  refine ⟨i1, i2, i3, iB, iST, iCU, ?_, iOO, ?_, ?_⟩
  · refine ⟨fun r' t' hr' lt' => ?_, iWW.2⟩
    rw [g0]
    exact iWW.1 r' t' hr' lt'
  · intro r' hr'
    refine ⟨(iRM r' hr').1, fun t' lt' f p g => ?_⟩
    exact (iRM r' hr').2 t' lt' f p (fun y => g ((g0 _).mpr y))
  · intro t' lt'
    obtain ⟨k1, k2, k3, k4⟩ := iK t' lt'
    refine ⟨k1, k2, fun r' hr' f => ?_, fun f p r' hr' => ?_⟩
    · by_cases e : t' * 8 + r' = t * 8 + r
      · rw [e, pl_us]
        rcases hx with y | y
        · exact Or.inr (Or.inr y)
        · have e2 : t' = t := by omega
          rw [e2] at f
          exact absurd y.2 f
      · rw [pl_un e]; exact k3 r' hr' f
    · by_cases e : t' = t
      · rw [e] at f p
        exact absurd (hp f) p
      · rw [pl_un (by omega)]
        exact k4 f p r' hr'
theorem lw_i_stamp (H : pl_R nc nr nl nt ck bg S P M ph xs xp xq xg xv xf xl xc xh xw xz ym yf ys yp yq yl yg yv) {c t : Nat} {o0' o1' o2' o3' : Int64} (hc : c < nc) (hm : M c = t + 1) (hP : P t = 0) (h32 : ck + 1 ≤ 32) (hf3 : ¬ yf t = 3) (hg : ∀ r, r < 8 → ¬ yg (t * 8 + r) = 1)
    (hO : ∀ g, g < 4 → lw_W o0' o1' o2' o3' g = if g = ck / 8 then pb_put (lw_W o0 o1 o2 o3 (ck / 8)) (8 * (ck % 8)) 8 (S t) else lw_W o0 o1 o2 o3 g) (HI : lw_I nc nr nt ck bg S P M yf yg yv w0 w1 w2 w3 o0 o1 o2 o3 cu rm be st) :
    lw_I nc nr nt (ck + 1) bg S (pl_nu P t (ck + 1)) M yf yg yv w0 w1 w2 w3 o0' o1' o2' o3' cu rm be (st ||| ((1 : Int64) <<< ((nI (S t)).toInt64 &&& 63))) := by
  have hb := pl_b H
  obtain ⟨i1, i2, i3, iB, iST, iCU, iWW, iOO, iRM, iK⟩ := HI
  have hTS : ∀ t, t < bg → ys t = nI (S t) ∧ 1 ≤ S t ∧ S t ≤ ck := H.2.1
  have hTP : ∀ t, t < bg → yp t = nI (P t) ∧ P t ≤ ck := fun t ht => H.2.2.2.1 t (by omega)
  have lt : t < bg := (H.2.2.2.2.2.2.2.2.2.1 c t (by omega) hm).1
  have sS := hTS t lt
  have here : lw_O (lw_W o0' o1' o2' o3') (ck + 1) = S t := by
    unfold lw_O
    rw [show ck + 1 - 1 = ck by omega, hO (ck / 8) (by omega), if_pos rfl]
    exact pb_ps (by decide) (by omega) (by omega) (by decide)
  have there : ∀ p, 1 ≤ p → p ≤ 32 → p ≠ ck + 1 → lw_O (lw_W o0' o1' o2' o3') p = lw_O (lw_W o0 o1 o2 o3) p := by
    intro p l1 l2 ne
    unfold lw_O
    rw [hO ((p - 1) / 8) (by omega)]
    by_cases e : (p - 1) / 8 = ck / 8
    · rw [if_pos e, e]
      exact pb_pn (by decide) (by omega) (by omega) (by decide) (by omega) (by omega)
    · rw [if_neg e]
  refine ⟨i1, i2, i3, iB, ?_, iCU, ⟨iWW.1, fun r s hr l1 l2 => iWW.2 r s hr (by omega) l2⟩, ?_, ?_, ?_⟩
  · refine ⟨fun q lq => ?_, fun s l1 l2 => ?_⟩
    · have sq := hTS q lq
      rw [pb_set _ (by omega) (by omega)]
      by_cases e : q = t
      · subst e
        rw [pl_ns]
        simp
      · have ne := pl_Sj H.2.2.1 lq lt e
        rw [pl_nn e]
        simp only [ne, decide_false, Bool.or_false]
        exact iST.1 q lq
    · rw [pb_set _ (by omega) l2]
      have ne : ¬ s = S t := by omega
      simp only [ne, decide_false, Bool.or_false]
      exact iST.2 s (by omega) l2
  · refine ⟨fun q lq p => ?_, fun p l1 l2 h => ?_⟩
    · by_cases e : q = t
      · rw [e, pl_ns]; exact here
      · rw [pl_nn e] at p ⊢
        have := (hTP q lq).2
        rw [there (P q) (by omega) (by omega) (by omega)]
        exact iOO.1 q lq p
    · by_cases e : p = ck + 1
      · exact ⟨t, lt, by rw [pl_ns]; exact e.symm⟩
      · rw [there p l1 l2 e] at h
        obtain ⟨q, lq, eq⟩ := iOO.2 p l1 l2 h
        have ne : q ≠ t := fun z => by rw [z, hP] at eq; omega
        exact ⟨q, lq, by rw [pl_nn ne]; exact eq⟩
  · intro r hr
    have r1 := iRM r hr
    refine ⟨by omega, fun q lq f p g => ?_⟩
    by_cases e : q = t
    · rw [e, pl_ns]; omega
    · rw [pl_nn e] at p ⊢
      exact r1.2 q lq f p g
  · intro q lq
    obtain ⟨k1, k2, k3, k4⟩ := iK q lq
    by_cases e : q = t
    · subst e
      rw [pl_ns]
      refine ⟨k1, fun _ => by omega, k3, fun f _ r hr => ?_⟩
      rcases k3 r hr hf3 with y | y | y
      · exact Or.inl y
      · exact absurd y (hg r hr)
      · exact Or.inr y
    · rw [pl_nn e]
      exact ⟨k1, k2, k3, k4⟩
theorem lw_i_rm {r v : Nat} (hr : r < nr) (hv : v ≤ ck) (hv2 : v < 256) (h : ∀ t, t < bg → yf t = 2 → P t ≠ 0 → yg (t * 8 + r) ≠ 0 → v < P t) (HI : lw_I nc nr nt ck bg S P M yf yg yv w0 w1 w2 w3 o0 o1 o2 o3 cu rm be st) :
    lw_I nc nr nt ck bg S P M yf yg yv w0 w1 w2 w3 o0 o1 o2 o3 cu (pb_put rm (8 * r) 8 v) be st := by
  obtain ⟨i1, i2, i3, iB, iST, iCU, iWW, iOO, iRM, iK⟩ := HI
  refine ⟨i1, i2, i3, iB, iST, iCU, iWW, iOO, ?_, iK⟩
  intro r' hr'
  by_cases e : r' = r
  · rw [e, pb_ps (by decide) (by omega) hv2 (by decide)]
    exact ⟨hv, h⟩
  · rw [pb_pn (by decide) (by omega) hv2 (by decide) (by omega) (by omega)]
    exact iRM r' hr'
end LWD
