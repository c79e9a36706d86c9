section PLG
variable {nc nr nl nt ck bg : Nat} {S P M : Nat → Nat} {ph xs xp xq xg xv xf xl xc xh xw xz ym yf ys yp yq yl yg yv : Nat → Int32}
theorem pl_dec (n : Nat) : nI (n + 1) + (-1) = nI n := by
  rw [← nI_1, Int32.add_assoc, show (1 : Int32) + (-1) = 0 from rfl, Int32.add_zero]
theorem px_nvs {post : Int32 → Prop} {r p : Nat} (hr : r < 8) (h1 : 1 ≤ p) (hw : ¬ xw (r * 65 + p) = 0) (hp : post (nI p)) : ∀ d, p + d ≤ 64 → (∀ q, p < q → q ≤ p + d → xw (r * 65 + q) = 0) → wX_newestVersion_16 post (nI r) (nI nc) (nI nr) (nI nl) (nI nt) (nI ck) (nI bg) ph xs xp xq xg xv xf xl xc xh xw xz (d + 1) (nI (p + d)) := by
  intro d
  induction d with
  | zero =>
    intro hd hz
    have e : ¬ p + 0 < 1 := by omega
    rw [wX_newestVersion_16]
    simp (disch := omega) only [wpX_versionCell, e, Nat.add_zero, hw, pl_cc, pl_vc, pl_le8, pl_le32, pl_lt64, pl_lt1, pl_lt8, pl_lt32, nI_pos, nI_pos', vp_in_nI, nI_clamp, nI_1, nI_leI, nI_ltI, nI_eq, forall_eq, true_implies, forall_const, not_true_eq_false, not_false_eq_true, false_implies, and_true, true_and, implies_true, and_self, eq_self]
    have e' : ¬ p < 1 := by omega
    simp only [e', hp, not_false_eq_true, false_implies, true_implies, and_self]
  | succ d ih =>
    intro hd hz
    have e : ¬ p + (d + 1) < 1 := by omega
    have z := hz (p + (d + 1)) (by omega) (by omega)
    have k := ih (by omega) (fun q a b => hz q a (by omega))
    have y : nI (p + (d + 1)) + (-1) = nI (p + d) := pl_dec (p + d)
    rw [wX_newestVersion_16]
    simp (disch := omega) only [wpX_versionCell, e, z, y, pl_cc, pl_vc, pl_le8, pl_le32, pl_lt64, pl_lt1, pl_lt8, pl_lt32, nI_pos, nI_pos', vp_in_nI, nI_clamp, nI_1, nI_leI, nI_ltI, nI_eq, forall_eq, true_implies, forall_const, not_true_eq_false, not_false_eq_true, false_implies, and_true, true_and, implies_true, and_self, eq_self]
    exact k
theorem px_nvn {post : Int32 → Prop} {r : Nat} (hr : r < 8) (hp : post (-1)) : ∀ d, d ≤ 64 → (∀ q, 1 ≤ q → q ≤ d → xw (r * 65 + q) = 0) → wX_newestVersion_16 post (nI r) (nI nc) (nI nr) (nI nl) (nI nt) (nI ck) (nI bg) ph xs xp xq xg xv xf xl xc xh xw xz (d + 1) (nI d) := by
  intro d
  induction d with
  | zero =>
    intro hd hz
    exact br_t (nI_lt (by decide) (by decide)) hp
  | succ d ih =>
    intro hd hz
    have e : ¬ d + 1 < 1 := by omega
    have z := hz (d + 1) (by omega) (by omega)
    have k := ih (by omega) (fun q a b => hz q a (by omega))
    rw [wX_newestVersion_16]
    simp (disch := omega) only [wpX_versionCell, e, z, pl_dec, pl_cc, pl_vc, pl_le8, pl_le32, pl_lt64, pl_lt1, pl_lt8, pl_lt32, nI_pos, nI_pos', vp_in_nI, nI_clamp, nI_1, nI_leI, nI_ltI, nI_eq, forall_eq, true_implies, forall_const, not_true_eq_false, not_false_eq_true, false_implies, and_true, true_and, implies_true, and_self, eq_self]
    exact k
theorem px_new_s {post : Int32 → Prop} {r p : Nat} {ts : Int32} (hr : r < 8) (h1 : 1 ≤ p) (h2 : p ≤ 64) (hw : ¬ xw (r * 65 + p) = 0) (hA : nI p ≤ ts) (hz : ∀ q, p < q → q ≤ 64 → nI q ≤ ts → xw (r * 65 + q) = 0) (hp : post (nI p)) : wpX_newestVersion post (nI nc, nI nr, nI nl, nI nt, nI ck, nI bg, ph, xs, xp, xq, xg, xv, xf, xl, xc, xh, xw, xz) (nI r) ts := by
  by_cases h : ts ≤ 64
  · have h0 : ¬ ts < 0 := Int32.not_lt.mpr (Int32.le_trans (nI_pos' (by omega)) hA)
    obtain ⟨j, hj, rfl⟩ := nI_of2 (n := 64) (by decide) h0 h
    rw [nI_leI (by omega) (by omega)] at hA
    refine br_t h ⟨j - p + 1, ?_⟩
    have k := px_nvs (nc := nc) (nr := nr) (nl := nl) (nt := nt) (ck := ck) (bg := bg) (ph := ph) (xs := xs) (xp := xp) (xq := xq) (xg := xg) (xv := xv) (xf := xf) (xl := xl) (xc := xc) (xh := xh) (xz := xz) hr h1 hw hp (j - p) (by omega) (fun q a b => hz q a (by omega) (nI_le (by omega) (by omega)))
    rw [show p + (j - p) = j by omega] at k
    exact k
  · refine br_f h ⟨64 - p + 1, ?_⟩
    have h64 : (64 : Int32) ≤ ts := Int32.le_of_lt (Int32.not_le.mp h)
    have k := px_nvs (nc := nc) (nr := nr) (nl := nl) (nt := nt) (ck := ck) (bg := bg) (ph := ph) (xs := xs) (xp := xp) (xq := xq) (xg := xg) (xv := xv) (xf := xf) (xl := xl) (xc := xc) (xh := xh) (xz := xz) hr h1 hw hp (64 - p) (by omega) (fun q a b => hz q a (by omega) (Int32.le_trans (nI_le (b := 64) (by omega) (by decide)) h64))
    rw [show p + (64 - p) = 64 by omega] at k
    exact k
theorem px_new_n {post : Int32 → Prop} {r : Nat} {ts : Int32} (hr : r < 8) (hz : ∀ q, 1 ≤ q → q ≤ 64 → nI q ≤ ts → xw (r * 65 + q) = 0) (hp : post (-1)) : wpX_newestVersion post (nI nc, nI nr, nI nl, nI nt, nI ck, nI bg, ph, xs, xp, xq, xg, xv, xf, xl, xc, xh, xw, xz) (nI r) ts := by
  by_cases h : ts ≤ 64
  · refine br_t h ?_
    by_cases h0 : ts < 0
    · exact ⟨1, br_t (Int32.lt_trans h0 (by decide)) hp⟩
    · obtain ⟨j, hj, rfl⟩ := nI_of2 (n := 64) (by decide) h0 h
      exact ⟨j + 1, px_nvn hr hp j hj (fun q a b => hz q a (by omega) (nI_le b (by omega)))⟩
  · refine br_f h ⟨64 + 1, ?_⟩
    have h64 : (64 : Int32) ≤ ts := Int32.le_of_lt (Int32.not_le.mp h)
    exact px_nvn hr hp 64 (by omega) (fun q a b => hz q a b (Int32.le_trans (nI_le (b := 64) b (by decide)) h64))
theorem px_hpl {post : Int32 → Prop} {c : Nat} (hc : c < 8) (hn : nr ≤ 8) (ht : ∀ r, r < nr → xg (c * 8 + r) = 1 → post 1) (hf : (∀ r, r < nr → ¬ xg (c * 8 + r) = 1) → post 0) : ∀ d i, i + d = nr → (∀ r, r < i → ¬ xg (c * 8 + r) = 1) → wX_hasRowOnlyPut_2 post (nI c) (nI nc) (nI nr) (nI nl) (nI nt) (nI ck) (nI bg) ph xs xp xq xg xv xf xl xc xh xw xz (d + 1) (nI i) := by
  intro d
  induction d with
  | zero =>
    intro i hi hb
    have e : i = nr := by omega
    subst e
    exact br_t (nI_le (Nat.le_refl i) (by omega)) (hf hb)
  | succ d ih =>
    intro i hi hb
    have h8 : ¬ nr ≤ i := by omega
    by_cases z : xg (c * 8 + i) = 1
    · simp (disch := omega) only [wX_hasRowOnlyPut_2, wpX_clientCell, h8, z, pl_cc, pl_vc, pl_le8, pl_le32, pl_lt64, pl_lt1, pl_lt8, pl_lt32, nI_pos, nI_pos', vp_in_nI, nI_clamp, nI_1, nI_leI, nI_ltI, nI_eq, forall_eq, true_implies, forall_const, not_true_eq_false, not_false_eq_true, false_implies, and_true, true_and, implies_true, and_self, eq_self]
      exact ht i (by omega) z
    · have k := ih (i + 1) (by omega) (lt_s hb z)
      rw [wX_hasRowOnlyPut_2]
      simp (disch := omega) only [wpX_clientCell, h8, z, pl_cc, pl_vc, pl_le8, pl_le32, pl_lt64, pl_lt1, pl_lt8, pl_lt32, nI_pos, nI_pos', vp_in_nI, nI_clamp, nI_1, nI_leI, nI_ltI, nI_eq, forall_eq, true_implies, forall_const, not_true_eq_false, not_false_eq_true, false_implies, and_true, true_and, implies_true, and_self, eq_self]
      exact k
theorem px_hp {post : Int32 → Prop} {c : Nat} (hc : c < 8) (hn : nr ≤ 8) (ht : ∀ r, r < nr → xg (c * 8 + r) = 1 → post 1) (hf : (∀ r, r < nr → ¬ xg (c * 8 + r) = 1) → post 0) : wpX_hasRowOnlyPut post (nI nc, nI nr, nI nl, nI nt, nI ck, nI bg, ph, xs, xp, xq, xg, xv, xf, xl, xc, xh, xw, xz) (nI c) := by
  have k := px_hpl (nc := nc) (nl := nl) (nt := nt) (ck := ck) (bg := bg) (ph := ph) (xs := xs) (xp := xp) (xq := xq) (xv := xv) (xf := xf) (xl := xl) (xc := xc) (xh := xh) (xw := xw) (xz := xz) hc hn ht hf nr 0 (by omega) lt_0
  rw [nI_0] at k
  exact ⟨nr + 1, k⟩
theorem px_wcl {post : Int32 → Prop} {c : Nat} (hc : c < 8) (hn : nr ≤ 8) (ht : ∀ r, r < nr → ¬ xg (c * 8 + r) = 0 → ¬ xg (c * 8 + r) = 3 → post 0) (hf : (∀ r, r < nr → xg (c * 8 + r) = 0 ∨ xg (c * 8 + r) = 3) → post 1) : ∀ d i, i + d = nr → (∀ r, r < i → xg (c * 8 + r) = 0 ∨ xg (c * 8 + r) = 3) → wX_isWhollyCommitted_2 post (nI c) (nI nc) (nI nr) (nI nl) (nI nt) (nI ck) (nI bg) ph xs xp xq xg xv xf xl xc xh xw xz (d + 1) (nI i) := by
  intro d
  induction d with
  | zero =>
    intro i hi hb
    have e : i = nr := by omega
    subst e
    exact br_t (nI_le (Nat.le_refl i) (by omega)) (hf hb)
  | succ d ih =>
    intro i hi hb
    have h8 : ¬ nr ≤ i := by omega
    by_cases z : xg (c * 8 + i) = 0
    · have k := ih (i + 1) (by omega) (lt_s hb (Or.inl z))
      rw [wX_isWhollyCommitted_2]
      simp (disch := omega) only [wpX_clientCell, h8, z, pl_cc, pl_vc, pl_le8, pl_le32, pl_lt64, pl_lt1, pl_lt8, pl_lt32, nI_pos, nI_pos', vp_in_nI, nI_clamp, nI_1, nI_leI, nI_ltI, nI_eq, forall_eq, true_implies, forall_const, not_true_eq_false, not_false_eq_true, false_implies, and_true, true_and, implies_true, and_self, eq_self]
      exact k
    · by_cases y : xg (c * 8 + i) = 3
      · have k := ih (i + 1) (by omega) (lt_s hb (Or.inr y))
        rw [wX_isWhollyCommitted_2]
        simp (disch := omega) only [wpX_clientCell, h8, y, pl_nq, pl_cc, pl_vc, pl_le8, pl_le32, pl_lt64, pl_lt1, pl_lt8, pl_lt32, nI_pos, nI_pos', vp_in_nI, nI_clamp, nI_1, nI_leI, nI_ltI, nI_eq, forall_eq, true_implies, forall_const, not_true_eq_false, not_false_eq_true, false_implies, and_true, true_and, implies_true, and_self, eq_self]
        exact k
      · simp (disch := omega) only [wX_isWhollyCommitted_2, wpX_clientCell, h8, z, y, pl_cc, pl_vc, pl_le8, pl_le32, pl_lt64, pl_lt1, pl_lt8, pl_lt32, nI_pos, nI_pos', vp_in_nI, nI_clamp, nI_1, nI_leI, nI_ltI, nI_eq, forall_eq, true_implies, forall_const, not_true_eq_false, not_false_eq_true, false_implies, and_true, true_and, implies_true, and_self, eq_self]
        exact ht i (by omega) z y
theorem px_wc {post : Int32 → Prop} {c : Nat} (hc : c < 8) (hn : nr ≤ 8) (ht : ∀ r, r < nr → ¬ xg (c * 8 + r) = 0 → ¬ xg (c * 8 + r) = 3 → post 0) (hf : (∀ r, r < nr → xg (c * 8 + r) = 0 ∨ xg (c * 8 + r) = 3) → post 1) : wpX_isWhollyCommitted post (nI nc, nI nr, nI nl, nI nt, nI ck, nI bg, ph, xs, xp, xq, xg, xv, xf, xl, xc, xh, xw, xz) (nI c) := by
  have k := px_wcl (nc := nc) (nl := nl) (nt := nt) (ck := ck) (bg := bg) (ph := ph) (xs := xs) (xp := xp) (xq := xq) (xv := xv) (xf := xf) (xl := xl) (xc := xc) (xh := xh) (xw := xw) (xz := xz) hc hn ht hf nr 0 (by omega) lt_0
  rw [nI_0] at k
  exact ⟨nr + 1, k⟩
/-- hasVersion and versionValue once the rows below i are added -/
def pl_AV (c p i : Nat) (xg xv xw xz w z : Nat → Int32) : Prop :=
  (∀ r q, r < 8 → q < 65 → w (r * 65 + q) = if r < i ∧ q = p ∧ xg (c * 8 + r) ≠ 0 then 1 else xw (r * 65 + q)) ∧
  (∀ r q, r < 8 → q < 65 → z (r * 65 + q) = if r < i ∧ q = p ∧ xg (c * 8 + r) ≠ 0 then xv (c * 8 + r) else xz (r * 65 + q))
theorem pl_AV_0 {c p : Nat} : pl_AV c p 0 xg xv xw xz xw xz := ⟨fun r q _ _ => (if_neg (by omega)).symm, fun r q _ _ => (if_neg (by omega)).symm⟩
theorem pl_AV_f {c p i : Nat} {w z : Nat → Int32} (h : pl_AV c p i xg xv xw xz w z) (h0 : xg (c * 8 + i) = 0) : pl_AV c p (i + 1) xg xv xw xz w z := by
  have e : ∀ r q, (r < i + 1 ∧ q = p ∧ xg (c * 8 + r) ≠ 0) ↔ (r < i ∧ q = p ∧ xg (c * 8 + r) ≠ 0) := by
    intro r q
    constructor
    · intro y
      refine ⟨?_, y.2⟩
      by_cases l : r = i
      · exact absurd (by rw [l]; exact h0) y.2.2
      · omega
    · intro y
      exact ⟨by omega, y.2⟩
  refine ⟨fun r q hr hq => ?_, fun r q hr hq => ?_⟩
  · rw [h.1 r q hr hq]
    simp only [e]
  · rw [h.2 r q hr hq]
    simp only [e]
theorem pl_AV_t {c p i : Nat} {w z : Nat → Int32} (hp : p < 65) (hi : i < 8) (h : pl_AV c p i xg xv xw xz w z) (h0 : ¬ xg (c * 8 + i) = 0) : pl_AV c p (i + 1) xg xv xw xz (upd w (i * 65 + p) 1) (upd z (i * 65 + p) (xv (c * 8 + i))) := by
  have e : ∀ r q, r * 65 + q ≠ i * 65 + p → q < 65 → ((r < i + 1 ∧ q = p ∧ xg (c * 8 + r) ≠ 0) ↔ (r < i ∧ q = p ∧ xg (c * 8 + r) ≠ 0)) := by
    intro r q hn hq
    constructor
    · intro y
      exact ⟨by omega, y.2⟩
    · intro y
      exact ⟨by omega, y.2⟩
  refine ⟨fun r q hr hq => ?_, fun r q hr hq => ?_⟩
  · by_cases n : r * 65 + q = i * 65 + p
    · have a : r = i := by omega
      have b : q = p := by omega
      subst a
      subst b
      rw [pl_us]
      exact (if_pos ⟨by omega, rfl, h0⟩).symm
    · rw [pl_un n, h.1 r q hr hq]
      simp only [e r q n hq]
  · by_cases n : r * 65 + q = i * 65 + p
    · have a : r = i := by omega
      have b : q = p := by omega
      subst a
      subst b
      rw [pl_us]
      exact (if_pos ⟨by omega, rfl, h0⟩).symm
    · rw [pl_un n, h.2 r q hr hq]
      simp only [e r q n hq]
theorem pl_vb1 : vp_nar .boolean 1 = 1 := by decide
theorem px_avl {post : St2 → Prop} {c p : Nat} (hc : c < 8) (hn : nr ≤ 8) (hpp : p ≤ 64) (hxp : xp c = nI p) (hp : ∀ w z, pl_AV c p nr xg xv xw xz w z → post (nI nc, nI nr, nI nl, nI nt, nI ck, nI bg, ph, xs, xp, xq, xg, xv, xf, xl, xc, xh, w, z)) : ∀ d i w z, i + d = nr → pl_AV c p i xg xv xw xz w z → wX_addVersions_2 post (nI c) (nI nc) (nI nr) (nI nl) (nI nt) (nI ck) (nI bg) (d + 1) (nI i) ph xs xp xq xg xv xf xl xc xh w z := by
  intro d
  induction d with
  | zero =>
    intro i w z hi hA
    have e : i = nr := by omega
    subst e
    exact br_t (nI_le (Nat.le_refl i) (by omega)) (hp w z hA)
  | succ d ih =>
    intro i w z hi hA
    have h8 : ¬ nr ≤ i := by omega
    by_cases y : xg (c * 8 + i) = 0
    · have k := ih (i + 1) w z (by omega) (pl_AV_f hA y)
      rw [wX_addVersions_2]
      simp (disch := omega) only [wpX_clientCell, h8, y, pl_cc, pl_vc, pl_le8, pl_le32, pl_lt64, pl_lt1, pl_lt8, pl_lt32, nI_pos, nI_pos', vp_in_nI, nI_clamp, nI_1, nI_leI, nI_ltI, nI_eq, forall_eq, true_implies, forall_const, not_true_eq_false, not_false_eq_true, false_implies, and_true, true_and, implies_true, and_self, eq_self]
      exact k
    · have k := ih (i + 1) _ _ (by omega) (pl_AV_t (by omega) (by omega) hA y)
      rw [wX_addVersions_2]
      simp (disch := omega) only [wpX_clientCell, wpX_versionCell, h8, y, hxp, pl_vb1, pl_cc, pl_vc, pl_le8, pl_le32, pl_lt64, pl_lt1, pl_lt8, pl_lt32, nI_pos, nI_pos', vp_in_nI, nI_clamp, nI_1, nI_leI, nI_ltI, nI_eq, forall_eq, true_implies, forall_const, not_true_eq_false, not_false_eq_true, false_implies, and_true, true_and, implies_true, and_self, eq_self]
      exact k
theorem px_av {post : St2 → Prop} {c p : Nat} (hc : c < 8) (hn : nr ≤ 8) (hpp : p ≤ 64) (hxp : xp c = nI p) (hp : ∀ w z, pl_AV c p nr xg xv xw xz w z → post (nI nc, nI nr, nI nl, nI nt, nI ck, nI bg, ph, xs, xp, xq, xg, xv, xf, xl, xc, xh, w, z)) : wpX_addVersions post (nI nc, nI nr, nI nl, nI nt, nI ck, nI bg, ph, xs, xp, xq, xg, xv, xf, xl, xc, xh, xw, xz) (nI c) := by
  have k := px_avl hc hn hpp hxp hp nr 0 xw xz (by omega) pl_AV_0
  rw [nI_0] at k
  exact ⟨nr + 1, k⟩
theorem px_tkl {post : Int32 → St2 → Prop} {n : Int32} (hp : post 0 (nI nc, nI nr, nI nl, nI nt, nI ck, nI bg, ph, xs, xp, xq, xg, xv, xf, pl_xt n xf xl 65, xc, xh, xw, xz)) : ∀ d i, 1 ≤ i → i + d = 65 → wX_tick_10 post n (nI nc) (nI nr) (nI nl) (nI nt) (nI ck) (nI bg) (d + 1) (nI i) ph xs xp xq xg xv xf (pl_xt n xf xl i) xc xh xw xz := by
  intro d
  induction d with
  | zero =>
    intro i h1 hi
    have e : i = 65 := by omega
    subst e
    exact br_t (nI_lt (a := 64) (by decide) (by decide)) hp
  | succ d ih =>
    intro i h1 hi
    have h8 : ¬ 64 < i := by omega
    have k := ih (i + 1) (by omega) (by omega)
    rw [pl_xt_s h1] at k
    by_cases a : xf i = 2
    · rw [if_pos a] at k
      by_cases b : n < xl i
      · have e : pl_lz n (xl i) = xl i - n := if_neg (Int32.not_le.mpr b)
        rw [e] at k
        rw [wX_tick_10]
        simp (disch := omega) only [h8, a, b, pl_xt_i, pl_cc, pl_vc, pl_le8, pl_le32, pl_lt64, pl_lt1, pl_lt8, pl_lt32, nI_pos, nI_pos', vp_in_nI, nI_clamp, nI_1, nI_leI, nI_ltI, nI_eq, forall_eq, true_implies, forall_const, not_true_eq_false, not_false_eq_true, false_implies, and_true, true_and, implies_true, and_self, eq_self]
        exact k
      · have e : pl_lz n (xl i) = 0 := if_pos (Int32.not_lt.mp b)
        rw [e] at k
        rw [wX_tick_10]
        simp (disch := omega) only [h8, a, b, pl_xt_i, pl_cc, pl_vc, pl_le8, pl_le32, pl_lt64, pl_lt1, pl_lt8, pl_lt32, nI_pos, nI_pos', vp_in_nI, nI_clamp, nI_1, nI_leI, nI_ltI, nI_eq, forall_eq, true_implies, forall_const, not_true_eq_false, not_false_eq_true, false_implies, and_true, true_and, implies_true, and_self, eq_self]
        exact k
    · rw [if_neg a] at k
      rw [wX_tick_10]
      simp (disch := omega) only [h8, a, pl_cc, pl_vc, pl_le8, pl_le32, pl_lt64, pl_lt1, pl_lt8, pl_lt32, nI_pos, nI_pos', vp_in_nI, nI_clamp, nI_1, nI_leI, nI_ltI, nI_eq, forall_eq, true_implies, forall_const, not_true_eq_false, not_false_eq_true, false_implies, and_true, true_and, implies_true, and_self, eq_self]
      exact k
/-! a holder in the way -/
def pl_lk (bg r : Nat) (S : Nat → Nat) (xh yf yl yg yf' : Nat → Int32) : Prop :=
  (yf' = yf ∧ ∀ t, t < 32 → yf t = 2 → ¬ yg (t * 8 + r) = 2) ∨ ∃ t, t < bg ∧ yf t = 2 ∧ yg (t * 8 + r) = 2 ∧ yl t ≤ 0 ∧ xh r = nI (S t) ∧ (∀ t', t' < 32 → yf t' = 2 → yg (t' * 8 + r) = 2 → t' = t) ∧ yf' = upd yf t 4
theorem px_clear (H : pl_R nc nr nl nt ck bg S P M ph xs xp xq xg xv xf xl xc xh xw xz ym yf ys yp yq yl yg yv) {r : Nat} (hr : r < nr) {post : Int32 → St2 → Prop}
    (hL : ∀ t, t < bg → yf t = 2 → yg (t * 8 + r) = 2 → ¬ yl t ≤ 0 → xh r = nI (S t) → (∀ t', t' < 32 → yf t' = 2 → yg (t' * 8 + r) = 2 → t' = t) → post 0 (nI nc, nI nr, nI nl, nI nt, nI ck, nI bg, ph, xs, xp, xq, xg, xv, xf, xl, xc, xh, xw, xz))
    (hN : ∀ xf' xh' yf', pl_R nc nr nl nt ck bg S P M ph xs xp xq xg xv xf' xl xc xh' xw xz ym yf' ys yp yq yl yg yv → xh' r = -1 → pl_lk bg r S xh yf yl yg yf' → post 1 (nI nc, nI nr, nI nl, nI nt, nI ck, nI bg, ph, xs, xp, xq, xg, xv, xf', xl, xc, xh', xw, xz)) : wpX_clearTheWay post (nI nc, nI nr, nI nl, nI nt, nI ck, nI bg, ph, xs, xp, xq, xg, xv, xf, xl, xc, xh, xw, xz) (nI r) := by
  have hb := pl_b H
  rcases pl_hd H hr with ⟨e, z⟩ | ⟨t, lt, f2, g2, e, et, l1, l2, el, z⟩
  · simp (disch := omega) only [wpX_clearTheWay, e, pl_cc, pl_vc, pl_le8, pl_le32, pl_lt64, pl_lt1, pl_lt8, pl_lt32, nI_pos, nI_pos', vp_in_nI, nI_clamp, nI_1, nI_leI, nI_ltI, nI_eq, forall_eq, true_implies, forall_const, not_true_eq_false, not_false_eq_true, false_implies, and_true, true_and, implies_true, and_self, eq_self]
    exact hN xf xh yf H e (Or.inl ⟨rfl, z⟩)
  · have ne : ¬ nI (S t) = -1 := pl_ne1 (by omega)
    by_cases l : yl t ≤ 0
    · simp (disch := omega) only [wpX_clearTheWay, e, ne, el, l, pl_cc, pl_vc, pl_le8, pl_le32, pl_lt64, pl_lt1, pl_lt8, pl_lt32, nI_pos, nI_pos', vp_in_nI, nI_clamp, nI_1, nI_leI, nI_ltI, nI_eq, forall_eq, true_implies, forall_const, not_true_eq_false, not_false_eq_true, false_implies, and_true, true_and, implies_true, and_self, eq_self]
      refine px_roll (by omega) (by omega) ?_
      exact hN _ _ _ (pl_roll H lt f2) (pl_eh_i hr e) (Or.inr ⟨t, lt, f2, g2, l, e, z, rfl⟩)
    · simp (disch := omega) only [wpX_clearTheWay, e, ne, el, l, pl_cc, pl_vc, pl_le8, pl_le32, pl_lt64, pl_lt1, pl_lt8, pl_lt32, nI_pos, nI_pos', vp_in_nI, nI_clamp, nI_1, nI_leI, nI_ltI, nI_eq, forall_eq, true_implies, forall_const, not_true_eq_false, not_false_eq_true, false_implies, and_true, true_and, implies_true, and_self, eq_self]
      exact hL t lt f2 g2 l e z
theorem pl_u0 {c : Nat} : upd (fun _ => 0) c 0 = fun _ => 0 := by
  funext j
  unfold upd
  split <;> rfl
theorem pl_zr0 {c : Nat} : pl_zr c (fun _ => 0) = fun _ => 0 := by
  funext j
  unfold pl_zr
  split <;> rfl
theorem px_in2 {post : St2 → Prop} {f0 f1 f2 f3 f4 f5 : Int32} {mc ms kc ks : Nat} (hp : ∀ xh, (∀ r, r < 8 → xh r = -1) → post (f0, f1, f2, f3, f4, f5, ph, xs, xp, xq, xg, xv, xf, xl, xc, xh, xw, xz)) : ∀ d i xh, i + d = 8 → (∀ r, r < i → xh r = -1) → wX_init_183 post mc ms kc ks f0 f1 f2 f3 f4 f5 (d + 1) (nI i) ph xs xp xq xg xv xf xl xc xh xw xz := by
  intro d
  induction d with
  | zero =>
    intro i xh hi h
    have e : i = 8 := by omega
    subst e
    exact br_t (nI_le (Nat.le_refl 8) (by decide)) (hp xh h)
  | succ d ih =>
    intro i xh hi h
    have h8 : ¬ 8 ≤ i := by omega
    have k := ih (i + 1) (upd xh i (-1)) (by omega) (lt_s (fun r l => by rw [pl_un (by omega)]; exact h r l) pl_us)
    rw [wX_init_183]
    simp (disch := omega) only [h8, pl_cc, pl_vc, pl_le8, pl_le32, pl_lt64, pl_lt1, pl_lt8, pl_lt32, nI_pos, nI_pos', vp_in_nI, nI_clamp, nI_1, nI_leI, nI_ltI, nI_eq, forall_eq, true_implies, forall_const, not_true_eq_false, not_false_eq_true, false_implies, and_true, true_and, implies_true, and_self, eq_self]
    exact k
theorem px_in1 {post : St2 → Prop} {f0 f1 f2 f3 f4 f5 : Int32} {mc ms kc ks : Nat} (hp : ∀ xs xp xq xh, (∀ c, c < 8 → xs c = -1 ∧ xp c = -1 ∧ xq c = -1) → (∀ r, r < 8 → xh r = -1) → post (f0, f1, f2, f3, f4, f5, (fun _ => 0), xs, xp, xq, (fun _ => 0), xv, xf, xl, xc, xh, xw, xz)) : ∀ d i xs xp xq, i + d = 8 → (∀ c, c < i → xs c = -1 ∧ xp c = -1 ∧ xq c = -1) → wX_init_161 post mc ms kc ks (d + 1) (nI i) f0 f1 f2 f3 f4 f5 (fun _ => 0) xs xp xq (fun _ => 0) xv xf xl xc xh xw xz := by
  intro d
  induction d with
  | zero =>
    intro i xs xp xq hi h
    have e : i = 8 := by omega
    subst e
    have k := px_in2 (mc := mc) (ms := ms) (kc := kc) (ks := ks) (f0 := f0) (f1 := f1) (f2 := f2) (f3 := f3) (f4 := f4) (f5 := f5) (fun xh' h' => hp xs xp xq xh' h h') 8 0 xh rfl lt_0
    rw [nI_0] at k
    exact br_t (nI_le (Nat.le_refl 8) (by decide)) ⟨9, k⟩
  | succ d ih =>
    intro i xs xp xq hi h
    have k := ih (i + 1) (upd xs i (-1)) (upd xp i (-1)) (upd xq i (-1)) (by omega) (lt_s (fun r l => by rw [pl_un (by omega), pl_un (by omega), pl_un (by omega)]; exact h r l) ⟨pl_us, pl_us, pl_us⟩)
    rw [wX_init_161]
    refine br_f (nI_ge (b := 8) (by omega) (by decide)) (px_idle (by omega) ?_)
    rw [pl_u0, pl_zr0]
    intro y ey
    rw [ey, nI_1]
    exact k
theorem pl_clamp {p : Int32} {a b n : Nat} (hp : p = nI n) (h1 : a ≤ n) (h2 : n ≤ b) (hb : b < 2 ^ 31) {post : Int32 → Prop} (h : post (nI n)) : wpX_clamp post () p (nI a) (nI b) := by
  subst hp
  exact br_t (nI_le h1 (by omega)) (br_t (nI_le h2 hb) h)
end PLG
