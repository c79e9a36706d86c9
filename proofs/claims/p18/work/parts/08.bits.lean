section PBA
/-! bits of a long; fields of a long -/
theorem pb_c : ∀ k, k < 64 → ((nI k).toInt64 &&& 63) = lN k := by decide +kernel
theorem pb_cu : ∀ k, k < 64 → ((nI k).toInt64.toUInt64 &&& Int64.toUInt64 63) = UInt64.ofNat k := by decide +kernel
theorem pb_sm : ∀ k, k < 64 → (BitVec.ofNat 64 k).smod 64 = BitVec.ofNat 64 k := by decide +kernel
theorem pb_tb (n : Nat) : (lN n).toBitVec = BitVec.ofNat 64 n := rfl
def pb_g (x : Int64) (i : Nat) : Bool := x.toBitVec.getLsbD i
theorem pb_or (x y : Int64) (i : Nat) : pb_g (x ||| y) i = (pb_g x i || pb_g y i) := by
  unfold pb_g
  rw [Int64.toBitVec_or, BitVec.getLsbD_or]
theorem pb_and (x y : Int64) (i : Nat) : pb_g (x &&& y) i = (pb_g x i && pb_g y i) := by
  unfold pb_g
  rw [Int64.toBitVec_and, BitVec.getLsbD_and]
theorem pb_not (x : Int64) {i : Nat} (hi : i < 64) : pb_g (x ^^^ (-1)) i = !pb_g x i := by
  unfold pb_g
  rw [Int64.toBitVec_xor, BitVec.getLsbD_xor, show Int64.toBitVec (-1) = BitVec.allOnes 64 by decide, BitVec.getLsbD_allOnes]
  simp [hi]
theorem pb_shr (x : Int64) {k : Nat} (hk : k < 64) : ((x.toUInt64 >>> ((nI k).toInt64.toUInt64 &&& Int64.toUInt64 63)).toInt64).toBitVec = x.toBitVec >>> k := by
  rw [pb_cu k hk]
  apply BitVec.eq_of_toNat_eq
  show (x.toUInt64 >>> UInt64.ofNat k).toNat = _
  have h1 : (UInt64.ofNat k).toNat = k := by
    show (BitVec.ofNat 64 k).toNat = k
    rw [BitVec.toNat_ofNat, Nat.mod_eq_of_lt (by omega)]
  rw [UInt64.toNat_shiftRight, h1, Nat.mod_eq_of_lt hk, BitVec.toNat_ushiftRight]
  rfl
theorem pb_shl (x : Int64) {k : Nat} (hk : k < 64) {i : Nat} (hi : i < 64) : pb_g (x <<< ((nI k).toInt64 &&& 63)) i = (decide (k ≤ i) && pb_g x (i - k)) := by
  unfold pb_g
  rw [pb_c k hk, Int64.toBitVec_shiftLeft, pb_tb, pb_sm k hk, BitVec.shiftLeft_eq', BitVec.toNat_ofNat, Nat.mod_eq_of_lt (by omega), BitVec.getLsbD_shiftLeft]
  by_cases h : k ≤ i
  · have h' : ¬ i < k := by omega
    simp [hi, h, h']
  · have h' : i < k := by omega
    simp [h, h']
theorem pb_lN {n i : Nat} (hi : i < 64) : pb_g (lN n) i = n.testBit i := by
  unfold pb_g
  rw [pb_tb, BitVec.getLsbD_ofNat]
  simp [hi]
theorem pb_1 {j : Nat} (h : j ≠ 0) : Nat.testBit 1 j = false := by
  cases j with
  | zero => exact absurd rfl h
  | succ j => simp [Nat.testBit_succ]
/-- one bit: test and set -/
theorem pb_one {s i : Nat} (hs : s < 64) (hi : i < 64) : pb_g ((1 : Int64) <<< ((nI s).toInt64 &&& 63)) i = decide (i = s) := by
  rw [pb_shl _ hs hi, show (1 : Int64) = lN 1 from rfl, pb_lN (by omega)]
  by_cases h : i = s
  · subst h
    simp
  · by_cases l : s ≤ i
    · have e : Nat.testBit 1 (i - s) = false := pb_1 (by omega)
      simp [h, e]
    · simp [h, l]
theorem pb_set (x : Int64) {s i : Nat} (hs : s < 64) (hi : i < 64) : pb_g (x ||| ((1 : Int64) <<< ((nI s).toInt64 &&& 63))) i = (pb_g x i || decide (i = s)) := by
  rw [pb_or, pb_one hs hi]
theorem pb_zero {x : Int64} : x = 0 ↔ ∀ i, i < 64 → pb_g x i = false := by
  constructor
  · intro h i hi
    subst h
    unfold pb_g
    simp
  · intro h
    apply Int64.toBitVec_inj.mp
    apply BitVec.eq_of_getLsbD_eq
    intro i hi
    have := h i hi
    unfold pb_g at this
    rw [this]
    simp
theorem pb_tst (x : Int64) {s : Nat} (hs : s < 64) : (x &&& ((1 : Int64) <<< ((nI s).toInt64 &&& 63))) = 0 ↔ pb_g x s = false := by
  rw [pb_zero]
  constructor
  · intro h
    have := h s hs
    rw [pb_and, pb_one hs hs] at this
    simpa using this
  · intro h i hi
    rw [pb_and, pb_one hs hi]
    by_cases e : i = s
    · rw [e, h]; rfl
    · simp [e]
theorem pb_tst2 (x : Int64) {s : Nat} (hs : s < 64) : (((x.toUInt64 >>> ((nI s).toInt64.toUInt64 &&& Int64.toUInt64 63)).toInt64) &&& 1) = 0 ↔ pb_g x s = false := by
  rw [pb_zero]
  have e1 : ∀ i, i < 64 → pb_g (1 : Int64) i = decide (i = 0) := by
    intro i hi
    rw [show (1 : Int64) = lN 1 from rfl, pb_lN hi]
    by_cases h : i = 0
    · subst h; rfl
    · have : Nat.testBit 1 i = false := by
        cases i with
        | zero => exact absurd rfl h
        | succ i => simp [Nat.testBit_succ]
      simp [h, this]
  have e2 : ∀ i, pb_g ((x.toUInt64 >>> ((nI s).toInt64.toUInt64 &&& Int64.toUInt64 63)).toInt64) i = pb_g x (s + i) := by
    intro i
    unfold pb_g
    rw [pb_shr x hs, BitVec.getLsbD_ushiftRight]
  constructor
  · intro h
    have := h 0 (by omega)
    rw [pb_and, e2, e1 0 (by omega)] at this
    simpa using this
  · intro h i hi
    rw [pb_and, e2, e1 i hi]
    by_cases e : i = 0
    · rw [e, Nat.add_zero, h]; rfl
    · simp [e]
/-- a field of m bits at k -/
def pb_f (x : Int64) (k m : Nat) : Nat := x.toBitVec.toNat >>> k % 2 ^ m
theorem pb_ft (x : Int64) (k m b : Nat) : (pb_f x k m).testBit b = (decide (b < m) && pb_g x (k + b)) := by
  unfold pb_f pb_g
  rw [Nat.testBit_mod_two_pow, Nat.testBit_shiftRight]
  rfl
theorem pb_fl (x : Int64) (k m : Nat) : pb_f x k m < 2 ^ m := Nat.mod_lt _ (Nat.two_pow_pos m)
theorem pb_fe {x y : Int64} {k m : Nat} (h : ∀ b, b < m → pb_g x (k + b) = pb_g y (k + b)) : pb_f x k m = pb_f y k m := by
  apply Nat.eq_of_testBit_eq
  intro b
  rw [pb_ft, pb_ft]
  by_cases hb : b < m
  · rw [h b hb]
  · simp [hb]
theorem pb_fz {k m : Nat} : pb_f 0 k m = 0 := by
  unfold pb_f
  simp
/-- a field set -/
def pb_put (x : Int64) (k m v : Nat) : Int64 := (x &&& ((lN (2 ^ m - 1) <<< ((nI k).toInt64 &&& 63)) ^^^ (-1))) ||| (lN v <<< ((nI k).toInt64 &&& 63))
theorem pb_pg {x : Int64} {k m v i : Nat} (hm : m ≤ 8) (hk : k < 64) (hi : i < 64) : pb_g (pb_put x k m v) i = ((pb_g x i && !(decide (k ≤ i) && decide (i - k < m))) || (decide (k ≤ i) && v.testBit (i - k))) := by
  unfold pb_put
  rw [pb_or, pb_and, pb_not _ hi, pb_shl _ hk hi, pb_shl _ hk hi, pb_lN (by omega), pb_lN (by omega), Nat.testBit_two_pow_sub_one]
theorem pb_ps {x : Int64} {k m v : Nat} (hm : m ≤ 8) (hk : k + m ≤ 64) (hv : v < 2 ^ m) (h0 : 0 < m) : pb_f (pb_put x k m v) k m = v := by
  apply Nat.eq_of_testBit_eq
  intro b
  rw [pb_ft]
  by_cases hb : b < m
  · rw [pb_pg hm (by omega) (by omega)]
    have e : k + b - k = b := by omega
    simp [hb, e]
  · have : v.testBit b = false := Nat.testBit_lt_two_pow (Nat.lt_of_lt_of_le hv (Nat.pow_le_pow_right (by omega) (by omega)))
    simp [hb, this]
theorem pb_pn {x : Int64} {k m v k' m' : Nat} (hm : m ≤ 8) (hk : k + m ≤ 64) (hv : v < 2 ^ m) (h0 : 0 < m) (hk' : k' + m' ≤ 64) (hd : k' + m' ≤ k ∨ k + m ≤ k') : pb_f (pb_put x k m v) k' m' = pb_f x k' m' := by
  apply pb_fe
  intro b hb
  rw [pb_pg hm (by omega) (by omega)]
  rcases hd with d | d
  · have e : ¬ k ≤ k' + b := by omega
    simp [e]
  · have e : k ≤ k' + b := by omega
    have e2 : ¬ k' + b - k < m := by omega
    have e3 : v.testBit (k' + b - k) = false := Nat.testBit_lt_two_pow (Nat.lt_of_lt_of_le hv (Nat.pow_le_pow_right (by omega) (by omega)))
    simp [e, e2, e3]
theorem pb_rd (x : Int64) {k : Nat} (hk : k < 64) : ((x.toUInt64 >>> ((nI k).toInt64.toUInt64 &&& Int64.toUInt64 63)).toInt64).toBitVec.toNat = x.toBitVec.toNat >>> k := by
  rw [pb_shr x hk, BitVec.toNat_ushiftRight]
theorem wb_tb (n : Nat) : (lN n).toBitVec = BitVec.ofNat 64 n := rfl
theorem wb_inj {a b : Int64} (h : a.toBitVec = b.toBitVec) : a = b := Int64.toBitVec_inj.mp h
theorem wb_tn {n : Nat} (h : n < 2 ^ 64) : (lN n).toBitVec.toNat = n := by rw [wb_tb, BitVec.toNat_ofNat, Nat.mod_eq_of_lt h]
theorem wb_of (x : Int64) : ∃ n, n < 2 ^ 64 ∧ x = lN n := ⟨x.toBitVec.toNat, x.toBitVec.isLt, wb_inj (by rw [wb_tb]; simp)⟩
theorem wb_lt2 {a b : Nat} (h : a < b) : 2 ^ a < 2 ^ b := Nat.pow_lt_pow_right (by decide) h
theorem wb_shr {n k : Nat} (hn : n < 2 ^ 64) (hk : k < 64) : ((lN n).toUInt64 >>> ((nI k).toInt64.toUInt64 &&& Int64.toUInt64 63)).toInt64 = lN (n / 2 ^ k) := by
  rw [pb_cu k hk]
  apply wb_inj
  apply BitVec.eq_of_toNat_eq
  show ((lN n).toUInt64 >>> UInt64.ofNat k).toNat = (BitVec.ofNat 64 _).toNat
  have h1 : (UInt64.ofNat k).toNat = k := by
    show (BitVec.ofNat 64 k).toNat = k
    rw [BitVec.toNat_ofNat, Nat.mod_eq_of_lt (by omega)]
  have h2 : (lN n).toUInt64.toNat = n := wb_tn hn
  rw [UInt64.toNat_shiftRight, h1, h2, Nat.mod_eq_of_lt hk, Nat.shiftRight_eq_div_pow, BitVec.toNat_ofNat, Nat.mod_eq_of_lt (Nat.lt_of_le_of_lt (Nat.div_le_self _ _) hn)]
theorem wb_and {a b : Nat} (ha : a < 2 ^ 64) (hb : b < 2 ^ 64) : lN a &&& lN b = lN (a &&& b) := by
  apply wb_inj
  rw [Int64.toBitVec_and, wb_tb, wb_tb, wb_tb]
  apply BitVec.eq_of_toNat_eq
  rw [BitVec.toNat_and, BitVec.toNat_ofNat, BitVec.toNat_ofNat, BitVec.toNat_ofNat, Nat.mod_eq_of_lt ha, Nat.mod_eq_of_lt hb, Nat.mod_eq_of_lt (Nat.and_lt_two_pow _ hb)]
theorem wb_mask {n k : Nat} (hn : n < 2 ^ 64) (hk : k < 64) : lN n &&& lN (2 ^ k - 1) = lN (n % 2 ^ k) := by
  rw [wb_and hn (by have := wb_lt2 hk; omega), Nat.and_two_pow_sub_one_eq_mod]
/-! the law's own helpers -/
theorem lw_ti (N : Nat) : (nI N).toBitVec.toNat = N % 2 ^ 32 := by
  show (BitVec.ofNat 32 N).toNat = _
  rw [BitVec.toNat_ofNat]
theorem lw_8 (c : Nat) : 8 * nI c = nI (8 * c) := pl_mul 8 c
theorem lw_at {post : Int32 → Prop} {p : Int64} {c : Nat} (hc : c < 8) (h : post (nI (pb_f p (8 * c) 8))) : wpL_at post () p (nI c) := by
  have e : (((p.toUInt64 >>> ((8 * nI c).toInt64.toUInt64 &&& Int64.toUInt64 63)).toInt64).toInt32) &&& 255 = nI (pb_f p (8 * c) 8) := by
    obtain ⟨n, hn, rfl⟩ := wb_of p
    rw [lw_8, wb_shr hn (by omega), lN_i, pk_and _ 8 (by decide), lw_ti, Nat.mod_mod_of_dvd _ (Nat.pow_dvd_pow 2 (by decide))]
    unfold pb_f
    rw [wb_tn hn, Nat.shiftRight_eq_div_pow]
  unfold wpL_at
  rw [e]
  exact h
theorem lw_with {post : Int64 → Prop} {p : Int64} {c v : Nat} (hv : v < 2 ^ 31) (h : post (pb_put p (8 * c) 8 v)) : wpL_with post () p (nI c) (nI v) := by
  unfold wpL_with
  rw [lw_8, nI_l hv]
  exact h
def lw_W (a b c d : Int64) (r : Nat) : Int64 := if r = 0 then a else if r = 1 then b else if r = 2 then c else d
theorem lw_sel {post : Int64 → Prop} {a b c d : Int64} {r : Nat} (hr : r < 4) (h : post (lw_W a b c d r)) : wpL_sel post () (nI r) a b c d := by
  have h4 : r = 0 ∨ r = 1 ∨ r = 2 ∨ r = 3 := by omega
  rcases h4 with e | e | e | e
  · subst e
    exact br_t rfl h
  · subst e
    exact br_f (by decide) (br_t rfl h)
  · subst e
    exact br_f (by decide) (br_f (by decide) (br_t rfl h))
  · subst e
    exact br_f (by decide) (br_f (by decide) (br_f (by decide) h))
def lw_v (q s r : Nat) : Int32 := if q = 1 then -1 else nI (300 * s + 10 * r + q)
theorem lw_val {post : Int32 → Prop} {q s r : Nat} (hq : q < 2 ^ 31) (h : post (lw_v q s r)) : wpL_value post () (nI q) (nI s) (nI r) := by
  unfold lw_v at h
  have e : 300 * nI s + 10 * nI r + nI q = nI (300 * s + 10 * r + q) := by
    have a : 300 * nI s = nI (300 * s) := pl_mul 300 s
    have b : 10 * nI r = nI (10 * r) := pl_mul 10 r
    rw [a, b, nI_add, nI_add]
  by_cases z : q = 1
  · rw [if_pos z] at h
    subst z
    exact br_t rfl h
  · rw [if_neg z] at h
    refine br_f (fun y => z ((nI_eq (b := 1) hq (by decide)).mp y)) ?_
    rw [e]
    exact h
theorem lw_q3 (x : Int64) {k : Nat} (hk : k < 64) : (((x.toUInt64 >>> ((nI k).toInt64.toUInt64 &&& Int64.toUInt64 63)).toInt64) &&& 3).toInt32 = nI (pb_f x k 2) := by
  obtain ⟨n, hn, rfl⟩ := wb_of x
  have e : lN (n / 2 ^ k) &&& 3 = lN (n / 2 ^ k % 2 ^ 2) := wb_mask (k := 2) (Nat.lt_of_le_of_lt (Nat.div_le_self _ _) hn) (by decide)
  rw [wb_shr hn hk, e, lN_i]
  unfold pb_f
  rw [wb_tn hn, Nat.shiftRight_eq_div_pow]
theorem lw_q0 (x : Int64) {k : Nat} (hk : k < 64) : (((x.toUInt64 >>> ((nI k).toInt64.toUInt64 &&& Int64.toUInt64 63)).toInt64) &&& 3) = 0 ↔ pb_f x k 2 = 0 := by
  obtain ⟨n, hn, rfl⟩ := wb_of x
  have e : lN (n / 2 ^ k) &&& 3 = lN (n / 2 ^ k % 2 ^ 2) := wb_mask (k := 2) (Nat.lt_of_le_of_lt (Nat.div_le_self _ _) hn) (by decide)
  have l : n / 2 ^ k % 2 ^ 2 < 2 ^ 2 := Nat.mod_lt _ (by decide)
  rw [wb_shr hn hk, e]
  unfold pb_f
  rw [wb_tn hn, Nat.shiftRight_eq_div_pow]
  exact lN_eq (b := 0) (by omega) (by decide)
end PBA
