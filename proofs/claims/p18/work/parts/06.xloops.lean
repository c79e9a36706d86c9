section PLF
variable {nc nr nl nt ck bg : Nat} {S P M : Nat → Nat} {ph xs xp xq xg xv xf xl xc xh xw xz ym yf ys yp yq yl yg yv : Nat → Int32}
theorem pl_mul (a b : Nat) : nI a * nI b = nI (a * b) := (Int32.ofNat_mul a b).symm
theorem pl_cc (c r : Nat) : nI c * 8 + nI r = nI (c * 8 + r) := by
  have h : nI c * 8 = nI (c * 8) := pl_mul c 8
  rw [h, nI_add]
theorem pl_vc (c r : Nat) : nI c * 65 + nI r = nI (c * 65 + r) := by
  have h : nI c * 65 = nI (c * 65) := pl_mul c 65
  rw [h, nI_add]
theorem pl_le8 {a : Nat} (h : a < 2 ^ 31) : (8 : Int32) ≤ nI a ↔ 8 ≤ a := nI_leI (a := 8) (by decide) h
theorem pl_le32 {a : Nat} (h : a < 2 ^ 31) : (32 : Int32) ≤ nI a ↔ 32 ≤ a := nI_leI (a := 32) (by decide) h
theorem pl_lt64 {a : Nat} (h : a < 2 ^ 31) : (64 : Int32) < nI a ↔ 64 < a := nI_ltI (a := 64) (by decide) h
theorem pl_lt1 {a : Nat} (h : a < 2 ^ 31) : nI a < (1 : Int32) ↔ a < 1 := nI_ltI (b := 1) h (by decide)
theorem pl_lt8 {a : Nat} (h : a < 2 ^ 31) : nI a < (8 : Int32) ↔ a < 8 := nI_ltI (b := 8) h (by decide)
theorem pl_lt32 {a : Nat} (h : a < 2 ^ 31) : nI a < (32 : Int32) ↔ a < 32 := nI_ltI (b := 32) h (by decide)
theorem pl_10 : ¬ (1 : Int32) = 0 := by decide
theorem pl_nq : (¬ (1 : Int32) = 0) ∧ (¬ (2 : Int32) = 0) ∧ (¬ (3 : Int32) = 0) ∧ (¬ (4 : Int32) = 0) ∧ (¬ (0 : Int32) = 1) ∧ (¬ (2 : Int32) = 1) ∧ (¬ (3 : Int32) = 1) ∧ (¬ (4 : Int32) = 1) ∧ (¬ (0 : Int32) = 2) ∧ (¬ (1 : Int32) = 2) ∧ (¬ (3 : Int32) = 2) ∧ (¬ (4 : Int32) = 2) ∧ (¬ (0 : Int32) = 3) ∧ (¬ (1 : Int32) = 3) ∧ (¬ (2 : Int32) = 3) ∧ (¬ (4 : Int32) = 3) ∧ (¬ (0 : Int32) = 4) ∧ (¬ (1 : Int32) = 4) ∧ (¬ (2 : Int32) = 4) ∧ (¬ (3 : Int32) = 4) ∧ (¬ (-4 : Int32) = 0) ∧ (¬ (-8 : Int32) = 0) ∧ (¬ (-11 : Int32) = 0) := by decide
theorem pl_m1 : ((-1 : Int32) < 0) ∧ (¬ (0 : Int32) ≤ -1) ∧ ((-1 : Int32) = -1) := by decide
theorem pl_ix (x : Int32) {n : Nat} (hn : n < 2 ^ 31) : x < 0 ∨ (¬ x < 0 ∧ nI n ≤ x ∧ ¬ x < nI n) ∨ ∃ j : Nat, j < n ∧ x = nI j := by
  by_cases h : x < 0
  · exact Or.inl h
  · obtain ⟨j, hj, rfl⟩ := nI_of h
    by_cases l : j < n
    · exact Or.inr (Or.inr ⟨j, l, rfl⟩)
    · exact Or.inr (Or.inl ⟨h, nI_le (by omega) hj, nI_nlt (by omega) hj⟩)
/-! X's own methods that loop -/
def pl_zi (c i : Nat) (f : Nat → Int32) : Nat → Int32 := fun j => if c * 8 ≤ j ∧ j < c * 8 + i then 0 else f j
theorem pl_zi_0 {c : Nat} {f : Nat → Int32} : pl_zi c 0 f = f := by
  funext j
  exact if_neg (by omega)
theorem pl_zi_s {c i : Nat} {f : Nat → Int32} : upd (pl_zi c i f) (c * 8 + i) 0 = pl_zi c (i + 1) f := by
  funext j
  unfold pl_zi
  by_cases e : j = c * 8 + i
  · have z : c * 8 ≤ j ∧ j < c * 8 + (i + 1) := by omega
    rw [e, pl_us, if_pos (by omega)]
  · rw [pl_un e]
    by_cases h : c * 8 ≤ j ∧ j < c * 8 + i
    · have z : c * 8 ≤ j ∧ j < c * 8 + (i + 1) := by omega
      rw [if_pos h, if_pos z]
    · have z : ¬ (c * 8 ≤ j ∧ j < c * 8 + (i + 1)) := by omega
      rw [if_neg h, if_neg z]
section XI
variable {f0 f1 f2 f3 f4 f5 : Int32}
theorem px_idl {post : St2 → Prop} {c : Nat} (hc : c < 8) (hp : post (f0, f1, f2, f3, f4, f5, ph, xs, xp, xq, pl_zr c xg, xv, xf, xl, xc, xh, xw, xz)) : ∀ d i, i + d = 8 → wX_becomeIdle_30 post (nI c) f0 f1 f2 f3 f4 f5 (d + 1) (nI i) ph xs xp xq (pl_zi c i xg) xv xf xl xc xh xw xz := by
  intro d
  induction d with
  | zero =>
    intro i hi
    have e : i = 8 := by omega
    subst e
    exact br_t (nI_le (Nat.le_refl 8) (by decide)) hp
  | succ d ih =>
    intro i hi
    have h8 : ¬ 8 ≤ i := by omega
    have k := ih (i + 1) (by omega)
    rw [← pl_zi_s] at k
    rw [wX_becomeIdle_30]
    simp (disch := omega) only [wpX_clientCell, h8, pl_cc, pl_vc, pl_le8, pl_le32, pl_lt64, pl_lt1, pl_lt8, pl_lt32, nI_pos, nI_pos', vp_in_nI, nI_clamp, nI_1, nI_leI, nI_ltI, nI_eq, forall_eq, true_implies, forall_const, not_true_eq_false, not_false_eq_true, false_implies, and_true, true_and, implies_true, and_self, eq_self]
    exact k
theorem px_idle {post : St2 → Prop} {c : Nat} (hc : c < 8) (hp : post (f0, f1, f2, f3, f4, f5, upd ph c 0, upd xs c (-1), upd xp c (-1), upd xq c (-1), pl_zr c xg, xv, xf, xl, xc, xh, xw, xz)) : wpX_becomeIdle post (f0, f1, f2, f3, f4, f5, ph, xs, xp, xq, xg, xv, xf, xl, xc, xh, xw, xz) (nI c) := by
  have k := px_idl (f0 := f0) (f1 := f1) (f2 := f2) (f3 := f3) (f4 := f4) (f5 := f5) hc hp 8 0 rfl
  rw [pl_zi_0, nI_0] at k
  simp (disch := omega) only [wpX_becomeIdle, pl_cc, pl_vc, pl_le8, pl_le32, pl_lt64, pl_lt1, pl_lt8, pl_lt32, nI_pos, nI_pos', vp_in_nI, nI_clamp, nI_1, nI_leI, nI_ltI, nI_eq, forall_eq, true_implies, forall_const, not_true_eq_false, not_false_eq_true, false_implies, and_true, true_and, implies_true, and_self, eq_self]
  exact ⟨9, k⟩
end XI
theorem pl_eh_0 {x : Int32} {f : Nat → Int32} : pl_eh 0 x f = f := by
  funext j
  exact if_neg (by omega)
theorem pl_eh_at {i : Nat} {x : Int32} {f : Nat → Int32} : pl_eh i x f i = f i := if_neg (by omega)
theorem pl_eh_t {i : Nat} {x : Int32} {f : Nat → Int32} (h : f i = x) : upd (pl_eh i x f) i (-1) = pl_eh (i + 1) x f := by
  funext j
  by_cases e : j = i
  · rw [e, pl_us]
    exact (if_pos ⟨by omega, h⟩).symm
  · rw [pl_un e]
    unfold pl_eh
    by_cases z : j < i ∧ f j = x
    · have z' : j < i + 1 ∧ f j = x := ⟨by omega, z.2⟩
      rw [if_pos z, if_pos z']
    · have z' : ¬ (j < i + 1 ∧ f j = x) := fun y => z ⟨by omega, y.2⟩
      rw [if_neg z, if_neg z']
theorem pl_eh_f {i : Nat} {x : Int32} {f : Nat → Int32} (h : ¬ f i = x) : pl_eh (i + 1) x f = pl_eh i x f := by
  funext j
  unfold pl_eh
  by_cases e : j = i
  · have z : ¬ (j < i ∧ f j = x) := by omega
    have z' : ¬ (j < i + 1 ∧ f j = x) := fun y => h (by rw [← e]; exact y.2)
    rw [if_neg z, if_neg z']
  · by_cases z : j < i ∧ f j = x
    · have z' : j < i + 1 ∧ f j = x := ⟨by omega, z.2⟩
      rw [if_pos z, if_pos z']
    · have z' : ¬ (j < i + 1 ∧ f j = x) := fun y => z ⟨by omega, y.2⟩
      rw [if_neg z, if_neg z']
theorem px_ehl {post : St2 → Prop} {x : Int32} (hn : nr ≤ 8) (hp : post (nI nc, nI nr, nI nl, nI nt, nI ck, nI bg, ph, xs, xp, xq, xg, xv, xf, xl, xc, pl_eh nr x xh, xw, xz)) : ∀ d i, i + d = nr → wX_endHolds_2 post x (nI nc) (nI nr) (nI nl) (nI nt) (nI ck) (nI bg) (d + 1) (nI i) ph xs xp xq xg xv xf xl xc (pl_eh i x xh) xw xz := by
  intro d
  induction d with
  | zero =>
    intro i hi
    have e : i = nr := by omega
    subst e
    exact br_t (nI_le (Nat.le_refl i) (by omega)) hp
  | succ d ih =>
    intro i hi
    have h8 : ¬ nr ≤ i := by omega
    have k := ih (i + 1) (by omega)
    by_cases h : xh i = x
    · rw [← pl_eh_t h] at k
      rw [wX_endHolds_2]
      simp (disch := omega) only [h8, pl_eh_at, h, pl_cc, pl_vc, pl_le8, pl_le32, pl_lt64, pl_lt1, pl_lt8, pl_lt32, nI_pos, nI_pos', vp_in_nI, nI_clamp, nI_1, nI_leI, nI_ltI, nI_eq, forall_eq, true_implies, forall_const, not_true_eq_false, not_false_eq_true, false_implies, and_true, true_and, implies_true, and_self, eq_self]
      exact k
    · rw [pl_eh_f h] at k
      rw [wX_endHolds_2]
      simp (disch := omega) only [h8, pl_eh_at, h, pl_cc, pl_vc, pl_le8, pl_le32, pl_lt64, pl_lt1, pl_lt8, pl_lt32, nI_pos, nI_pos', vp_in_nI, nI_clamp, nI_1, nI_leI, nI_ltI, nI_eq, forall_eq, true_implies, forall_const, not_true_eq_false, not_false_eq_true, false_implies, and_true, true_and, implies_true, and_self, eq_self]
      exact k
theorem px_eh {post : St2 → Prop} {x : Int32} (hn : nr ≤ 8) (hp : post (nI nc, nI nr, nI nl, nI nt, nI ck, nI bg, ph, xs, xp, xq, xg, xv, xf, xl, xc, pl_eh nr x xh, xw, xz)) : wpX_endHolds post (nI nc, nI nr, nI nl, nI nt, nI ck, nI bg, ph, xs, xp, xq, xg, xv, xf, xl, xc, xh, xw, xz) x := by
  have k := px_ehl hn hp nr 0 (by omega)
  rw [pl_eh_0, nI_0] at k
  exact ⟨nr + 1, k⟩
theorem px_roll {post : St2 → Prop} {s : Nat} (hn : nr ≤ 8) (hs : s ≤ 64) (hp : post (nI nc, nI nr, nI nl, nI nt, nI ck, nI bg, ph, xs, xp, xq, xg, xv, upd xf s 4, xl, xc, pl_eh nr (nI s) xh, xw, xz)) : wpX_rollBack post (nI nc, nI nr, nI nl, nI nt, nI ck, nI bg, ph, xs, xp, xq, xg, xv, xf, xl, xc, xh, xw, xz) (nI s) := by
  simp (disch := omega) only [wpX_rollBack, pl_cc, pl_vc, pl_le8, pl_le32, pl_lt64, pl_lt1, pl_lt8, pl_lt32, nI_pos, nI_pos', vp_in_nI, nI_clamp, nI_1, nI_leI, nI_ltI, nI_eq, forall_eq, true_implies, forall_const, not_true_eq_false, not_false_eq_true, false_implies, and_true, true_and, implies_true, and_self, eq_self]
  exact px_eh hn hp
end PLF
