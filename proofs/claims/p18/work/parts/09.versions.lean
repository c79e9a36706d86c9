section LWB
abbrev lw_T98 : Type := Int64 → Int64 → Int64 → Int64 → Int64 → Int64 → Int64 → Int64 → Int64 → Int64 → Int64 → Int64 → Int64 → Int64 → Int64 → Int32 → Int32 → Int32 → Int32 → Int32 → Int32 → Int32 → Int32 → (Nat → Int32) → (Nat → Int32) → (Nat → Int32) → (Nat → Int32) → (Nat → Int32) → (Nat → Int32) → (Nat → Int32) → (Nat → Int32) → (Nat → Int32) → (Nat → Int32) → (Nat → Int32) → (Nat → Int32) → Prop
abbrev lw_T197 : Type := Int64 → Int64 → Int64 → Int64 → Int64 → Int64 → Int64 → Int64 → Int64 → Int64 → Int64 → Int64 → Int64 → Int64 → Int64 → Int32 → Int32 → Int32 → Int32 → Int32 → Int32 → Int32 → Int32 → Int32 → (Nat → Int32) → (Nat → Int32) → (Nat → Int32) → (Nat → Int32) → (Nat → Int32) → (Nat → Int32) → (Nat → Int32) → (Nat → Int32) → (Nat → Int32) → (Nat → Int32) → (Nat → Int32) → (Nat → Int32) → Prop
def lw_O (O : Nat → Int64) (p : Nat) : Nat := pb_f (O ((p - 1) / 8)) (8 * ((p - 1) % 8)) 8
def lw_B (bg : Nat) (S : Nat → Nat) (be : Int64) : Prop := ∀ s, s < 64 → (pb_g be s = true ↔ ∃ t, t < bg ∧ S t = s)
def lw_ST (ck bg : Nat) (S P : Nat → Nat) (st : Int64) : Prop := (∀ t, t < bg → (pb_g st (S t) = true ↔ P t ≠ 0)) ∧ (∀ s, ck < s → s < 64 → pb_g st s = false)
def lw_CU (nc : Nat) (S M : Nat → Nat) (cu : Int64) : Prop := ∀ c t, c < nc → M c = t + 1 → pb_f cu (8 * c) 8 = S t
def lw_WW (nr ck bg : Nat) (S : Nat → Nat) (yg yv : Nat → Int32) (W : Nat → Int64) : Prop :=
  (∀ r t, r < nr → t < bg → (pb_f (W r) (2 * (S t - 1)) 2 = 0 ↔ yg (t * 8 + r) = 0) ∧ (pb_f (W r) (2 * (S t - 1)) 2 ≠ 0 → yv (t * 8 + r) = lw_v (pb_f (W r) (2 * (S t - 1)) 2) (S t) r)) ∧
  (∀ r s, r < nr → ck < s → s ≤ 32 → pb_f (W r) (2 * (s - 1)) 2 = 0)
def lw_OO (bg : Nat) (S P : Nat → Nat) (O : Nat → Int64) : Prop := (∀ t, t < bg → P t ≠ 0 → lw_O O (P t) = S t) ∧ (∀ p, 1 ≤ p → p ≤ 32 → lw_O O p ≠ 0 → ∃ t, t < bg ∧ P t = p)
def lw_RM (nr ck bg : Nat) (P : Nat → Nat) (yf yg : Nat → Int32) (rm : Int64) : Prop := ∀ r, r < nr → pb_f rm (8 * r) 8 ≤ ck ∧ ∀ t, t < bg → yf t = 2 → P t ≠ 0 → yg (t * 8 + r) ≠ 0 → pb_f rm (8 * r) 8 < P t
def lw_K (bg : Nat) (S P : Nat → Nat) (yf yg : Nat → Int32) : Prop := ∀ t, t < bg → (yf t = 1 ∨ yf t = 2 ∨ yf t = 3 ∨ yf t = 4) ∧ (P t ≠ 0 → S t < P t) ∧ (∀ r, r < 8 → yf t ≠ 3 → yg (t * 8 + r) = 0 ∨ yg (t * 8 + r) = 1 ∨ yg (t * 8 + r) = 2) ∧ (yf t = 2 → P t ≠ 0 → ∀ r, r < 8 → yg (t * 8 + r) = 0 ∨ yg (t * 8 + r) = 2)
/-- what the law's longs say of the transactions, the fates' bits left out -/
def lw_I (nc nr nt ck bg : Nat) (S P M : Nat → Nat) (yf yg yv : Nat → Int32) (w0 w1 w2 w3 o0 o1 o2 o3 cu rm be st : Int64) : Prop :=
  nc ≤ 3 ∧ nr ≤ 4 ∧ nt = 16 ∧ lw_B bg S be ∧ lw_ST ck bg S P st ∧ lw_CU nc S M cu ∧ lw_WW nr ck bg S yg yv (lw_W w0 w1 w2 w3) ∧ lw_OO bg S P (lw_W o0 o1 o2 o3) ∧ lw_RM nr ck bg P yf yg rm ∧ lw_K bg S P yf yg
/-- the bits of a fate -/
def lw_bt (bo de dn : Int64) (s : Nat) (a b c : Bool) : Prop := pb_g bo s = a ∧ pb_g de s = b ∧ pb_g dn s = c
def lw_kp (S : Nat → Nat) (yf : Nat → Int32) (bo de dn : Int64) (t : Nat) : Prop :=
  (yf t = 1 ∧ lw_bt bo de dn (S t) false false false) ∨ (yf t = 2 ∧ lw_bt bo de dn (S t) true false false) ∨ (yf t = 3 ∧ lw_bt bo de dn (S t) true false true) ∨ (yf t = 4 ∧ lw_bt bo de dn (S t) true true false)
def lw_F (ck : Nat) (bo de dn : Int64) : Prop := ∀ s, ck < s → s < 64 → lw_bt bo de dn s false false false
variable {nc nr nl nt ck bg : Nat} {S P M : Nat → Nat} {ph xs xp xq xg xv xf xl xc xh xw xz ym yf ys yp yq yl yg yv : Nat → Int32}
variable {w0 w1 w2 w3 o0 o1 o2 o3 cu rm be bo de dn st : Int64} {kk aa bb op cc dd r0 re an jj rr pa pr kd : Int32} {kc ks L s : Nat} {xs0 : Nat → Int32} {post : Int32 → Prop} {J98 : lw_T98} {J197 : lw_T197}
/-- the newest version up to a -/
def lw_Ver (bg : Nat) (P : Nat → Nat) (yf yg yv : Nat → Int32) (r a : Nat) (vt v : Int32) : Prop :=
  (vt = -1 ∧ v = -1 ∧ ∀ t, t < bg → yf t = 3 → yg (t * 8 + r) ≠ 0 → ¬ P t ≤ a) ∨
  ∃ t, t < bg ∧ yf t = 3 ∧ yg (t * 8 + r) ≠ 0 ∧ P t ≤ a ∧ vt = nI (P t) ∧ v = yv (t * 8 + r) ∧ ∀ t', t' < bg → yf t' = 3 → yg (t' * 8 + r) ≠ 0 → P t' ≤ a → P t' ≤ P t
theorem lw_ver (H : pl_R nc nr nl nt ck bg S P M ph xs xp xq xg xv xf xl xc xh xw xz ym yf ys yp yq yl yg yv) {r a : Nat} {vt v z : Int32} (hr : r < nr) (hV : lw_Ver bg P yf yg yv r a vt v) (hz : ∀ q, 1 ≤ q → q ≤ ck → (nI q ≤ z ↔ q ≤ a)) :
    (∀ p : Int32 → Prop, p vt → wpX_versionTime p (nI nc, nI nr, nI nl, nI nt, nI ck, nI bg, ph, xs, xp, xq, xg, xv, xf, xl, xc, xh, xw, xz) (nI r) z) ∧ (∀ p : Int32 → Prop, p v → wpX_peek p (nI nc, nI nr, nI nl, nI nt, nI ck, nI bg, ph, xs, xp, xq, xg, xv, xf, xl, xc, xh, xw, xz) (nI r) z) := by
  have hb := pl_b H
  have hr' : ¬ nr ≤ r := by omega
  have hTP : ∀ t, t < bg → yp t = nI (P t) ∧ P t ≤ ck := fun t ht => H.2.2.2.1 t (by omega)
  have hT3 : ∀ t, t < bg → yf t = 3 → P t ≠ 0 := fun t ht => H.2.2.2.2.2.2.2.1 t (by omega)
  have hVE := H.2.2.2.2.2.2.2.2.2.2.2.2.2.2.2.2.2.2.2.1
  have hVX := H.2.2.2.2.2.2.2.2.2.2.2.2.2.2.2.2.2.2.2.2
  rcases hV with ⟨e1, e2, hn⟩ | ⟨t, lt, f3, g, le, e1, e2, hm⟩
  · subst e1
    subst e2
    have hx : ∀ q, 1 ≤ q → q ≤ 64 → nI q ≤ z → xw (r * 65 + q) = 0 := by
      intro q l1 l2 h
      by_cases y : xw (r * 65 + q) = 0
      · exact y
      · obtain ⟨t, lt, f3, g, e⟩ := hVX r q (by omega) l1 l2 y
        have := (hTP t lt).2
        exact absurd ((hz q l1 (by omega)).mp h) (by rw [← e]; exact hn t lt f3 g)
    refine ⟨fun p hp => ?_, fun p hp => ?_⟩
    · simp (disch := omega) only [wpX_versionTime, wpX_isRow, hr, hr', pl_nq, pl_cc, pl_vc, pl_le8, pl_le32, pl_lt64, pl_lt1, pl_lt8, pl_lt32, nI_pos, nI_pos', vp_in_nI, nI_clamp, nI_1, nI_leI, nI_ltI, nI_eq, forall_eq, true_implies, forall_const, not_true_eq_false, not_false_eq_true, false_implies, and_true, true_and, implies_true, and_self, eq_self]
      exact px_new_n (by omega) hx hp
    · simp (disch := omega) only [wpX_peek, wpX_isRow, wpX_valueAt, hr, hr', pl_nq, pl_cc, pl_vc, pl_le8, pl_le32, pl_lt64, pl_lt1, pl_lt8, pl_lt32, nI_pos, nI_pos', vp_in_nI, nI_clamp, nI_1, nI_leI, nI_ltI, nI_eq, forall_eq, true_implies, forall_const, not_true_eq_false, not_false_eq_true, false_implies, and_true, true_and, implies_true, and_self, eq_self]
      refine px_new_n (by omega) hx ?_
      simp (disch := omega) only [pl_m1, pl_cc, pl_vc, pl_le8, pl_le32, pl_lt64, pl_lt1, pl_lt8, pl_lt32, nI_pos, nI_pos', vp_in_nI, nI_clamp, nI_1, nI_leI, nI_ltI, nI_eq, forall_eq, true_implies, forall_const, not_true_eq_false, not_false_eq_true, false_implies, and_true, true_and, implies_true, and_self, eq_self]
      exact hp
  · subst e1
    subst e2
    have p0 := hT3 t lt f3
    have p1 := (hTP t lt).2
    have ve := hVE r t (by omega) lt f3 g
    have w0 : ¬ xw (r * 65 + P t) = 0 := by rw [ve.1]; decide
    have hx : ∀ q, P t < q → q ≤ 64 → nI q ≤ z → xw (r * 65 + q) = 0 := by
      intro q l1 l2 h
      by_cases y : xw (r * 65 + q) = 0
      · exact y
      · obtain ⟨t', lt', f3', g', e⟩ := hVX r q (by omega) (by omega) l2 y
        have := (hTP t' lt').2
        have a1 := (hz q (by omega) (by omega)).mp h
        have := hm t' lt' f3' g' (by omega)
        omega
    have hA : nI (P t) ≤ z := (hz (P t) (by omega) p1).mpr le
    refine ⟨fun p hp => ?_, fun p hp => ?_⟩
    · simp (disch := omega) only [wpX_versionTime, wpX_isRow, hr, hr', pl_nq, pl_cc, pl_vc, pl_le8, pl_le32, pl_lt64, pl_lt1, pl_lt8, pl_lt32, nI_pos, nI_pos', vp_in_nI, nI_clamp, nI_1, nI_leI, nI_ltI, nI_eq, forall_eq, true_implies, forall_const, not_true_eq_false, not_false_eq_true, false_implies, and_true, true_and, implies_true, and_self, eq_self]
      exact px_new_s (by omega) (by omega) (by omega) w0 hA hx hp
    · simp (disch := omega) only [wpX_peek, wpX_isRow, wpX_valueAt, hr, hr', pl_nq, pl_cc, pl_vc, pl_le8, pl_le32, pl_lt64, pl_lt1, pl_lt8, pl_lt32, nI_pos, nI_pos', vp_in_nI, nI_clamp, nI_1, nI_leI, nI_ltI, nI_eq, forall_eq, true_implies, forall_const, not_true_eq_false, not_false_eq_true, false_implies, and_true, true_and, implies_true, and_self, eq_self]
      refine px_new_s (by omega) (by omega) (by omega) w0 hA hx ?_
      have ne : ¬ nI (P t) = -1 := pl_ne1 (by omega)
      simp (disch := omega) only [wpX_versionCell, ne, ve.2, pl_cc, pl_vc, pl_le8, pl_le32, pl_lt64, pl_lt1, pl_lt8, pl_lt32, nI_pos, nI_pos', vp_in_nI, nI_clamp, nI_1, nI_leI, nI_ltI, nI_eq, forall_eq, true_implies, forall_const, not_true_eq_false, not_false_eq_true, false_implies, and_true, true_and, implies_true, and_self, eq_self]
      exact hp
theorem lw_2 (c : Nat) : 2 * nI c = nI (2 * c) := pl_mul 2 c
theorem lw_p1 {n : Nat} (h : 1 ≤ n) : nI n - 1 = nI (n - 1) := by
  obtain ⟨m, rfl⟩ : ∃ m, n = m + 1 := ⟨n - 1, by omega⟩
  exact nI_pred m
theorem lw_s3 {n : Nat} (h : n < 2 ^ 31) : nI n >>> ((3 : Int32) &&& 31) = nI (n / 8) := pk_shrN h _ 3 (by decide)
theorem lw_a7 {n : Nat} (h : n < 2 ^ 31) : nI n &&& 7 = nI (n % 8) := pk_andN (by omega) 3 (by decide)
theorem lw_c2 (n : Nat) : nI n + 2 = nI (n + 2) := nI_add n 2
/-- one time checked -/
theorem lw_1557 {J1419 : Int32 → Prop} {J1449 : Int32 → Int32 → Int32 → Prop} {ww : Int64} (H : pl_R nc nr nl nt ck bg S P M ph xs xp xq xg xv xf xl xc xh xw xz ym yf ys yp yq yl yg yv) {r a : Nat} {vt v x57 z : Int32} (hr : r < nr) (hV : lw_Ver bg P yf yg yv r a vt v) (hz : ∀ q, 1 ≤ q → q ≤ ck → (nI q ≤ z ↔ q ≤ a))
    (hx : (0 ≤ x57 ∧ x57 ≤ nI ck + 1 ∧ z = x57) ∨ (0 ≤ x57 ∧ ¬ x57 ≤ nI ck + 1 ∧ z = 2147483647) ∨ (¬ 0 ≤ x57 ∧ z = -2147483648)) (hJ : J1449 vt v (x57 + 1)) :
    wL_law_1557 post L xs0 J98 J197 J1419 J1449 (nI nc) (nI nr) w0 w1 w2 w3 o0 o1 o2 o3 cu rm be bo de dn st (nI ck) kk aa bb op cc dd r0 re an jj (nI r) ww vt v x57 kc ks (nI nc) (nI nr) (nI nl) (nI nt) (nI ck) (nI bg) ph xs xp xq xg xv xf xl xc xh xw xz := by
  obtain ⟨kV, kP⟩ := lw_ver H hr hV hz
  have go : wL_law_1583 post L xs0 J98 J197 J1419 J1449 (nI nc) (nI nr) w0 w1 w2 w3 o0 o1 o2 o3 cu rm be bo de dn st (nI ck) kk aa bb op cc dd r0 re an jj (nI r) ww vt v x57 z kc ks (nI nc) (nI nr) (nI nl) (nI nt) (nI ck) (nI bg) ph xs xp xq xg xv xf xl xc xh xw xz := by
    unfold wL_law_1583
    refine kV _ (br_t rfl (kP _ (br_t rfl ?_)))
    intro y ey
    rw [ey]
    exact hJ
  unfold wL_law_1557
  rcases hx with ⟨a1, a2, a3⟩ | ⟨a1, a2, a3⟩ | ⟨a1, a3⟩
  · subst a3
    exact br_t a1 (br_t a2 go)
  · subst a3
    exact br_t a1 (br_f a2 go)
  · subst a3
    exact br_f a1 go
theorem lw_tl {J1419 : Int32 → Prop} (H : pl_R nc nr nl nt ck bg S P M ph xs xp xq xg xv xf xl xc xh xw xz ym yf ys yp yq yl yg yv) (HI : lw_I nc nr nt ck bg S P M yf yg yv w0 w1 w2 w3 o0 o1 o2 o3 cu rm be st) (hk : ∀ t, t < bg → lw_kp S yf bo de dn t) {r : Nat} (hr : r < nr) (hJ : J1419 (nI r + 1)) :
    ∀ d u vt v, u + d = ck + 3 → lw_Ver bg P yf yg yv r (u - 1) vt v → wL_law_1449 post L xs0 J98 J197 J1419 (nI nc) (nI nr) w0 w1 w2 w3 o0 o1 o2 o3 cu rm be bo de dn st (nI ck) kk aa bb op cc dd r0 re an jj (nI r) (lw_W w0 w1 w2 w3 r) kc ks (nI nc) (nI nr) (nI nl) (nI nt) (nI ck) (nI bg) ph xs xp xq xg xv xf xl xc xh xw xz (d + 1) vt v (nI u) := by
  have hb := pl_b H
  obtain ⟨i1, i2, i3, iB, iST, iCU, iWW, iOO, iRM, iK⟩ := HI
  have hTS : ∀ t, t < bg → ys t = nI (S t) ∧ 1 ≤ S t ∧ S t ≤ ck := H.2.1
  have hTP : ∀ t, t < bg → yp t = nI (P t) ∧ P t ≤ ck := fun t ht => H.2.2.2.1 t (by omega)
  have hTJ : ∀ t t', t < bg → t' < bg → P t = P t' → P t = 0 ∨ t = t' := fun t t' a b => H.2.2.2.2.1 t t' (by omega) (by omega)
  have hT3 : ∀ t, t < bg → yf t = 3 → P t ≠ 0 := fun t ht => H.2.2.2.2.2.2.2.1 t (by omega)
  intro d
  induction d with
  | zero =>
    intro u vt v hu hV
    refine br_t ?_ (nm_e hJ)
    rw [lw_c2]
    exact nI_lt (by omega) (by omega)
  | succ d ih =>
    intro u vt v hu hV
    have h1 : ¬ ck + 2 < u := by omega
    -- the newest up to u stays what it was
    have keep : ∀ vt v, lw_Ver bg P yf yg yv r u vt v → wL_law_1557 post L xs0 J98 J197 J1419 (wL_law_1449 post L xs0 J98 J197 J1419 (nI nc) (nI nr) w0 w1 w2 w3 o0 o1 o2 o3 cu rm be bo de dn st (nI ck) kk aa bb op cc dd r0 re an jj (nI r) (lw_W w0 w1 w2 w3 r) kc ks (nI nc) (nI nr) (nI nl) (nI nt) (nI ck) (nI bg) ph xs xp xq xg xv xf xl xc xh xw xz (d + 1)) (nI nc) (nI nr) w0 w1 w2 w3 o0 o1 o2 o3 cu rm be bo de dn st (nI ck) kk aa bb op cc dd r0 re an jj (nI r) (lw_W w0 w1 w2 w3 r) vt v (nI u) kc ks (nI nc) (nI nr) (nI nl) (nI nt) (nI ck) (nI bg) ph xs xp xq xg xv xf xl xc xh xw xz := by
      intro vt v hV'
      have k := ih (u + 1) vt v (by omega) hV'
      rw [← nI_1] at k
      by_cases l : u ≤ ck + 1
      · exact lw_1557 (z := nI u) H hr hV' (fun q _ l2 => nI_leI (by omega) (by omega)) (Or.inl ⟨nI_pos' (by omega), by rw [nI_1]; exact nI_le l (by omega), rfl⟩) k
      · refine lw_1557 (z := 2147483647) H hr hV' (fun q _ l2 => ⟨fun _ => by omega, fun _ => nI_le (b := 2147483647) (by omega) (by decide)⟩) (Or.inr (Or.inl ⟨nI_pos' (by omega), ?_, rfl⟩)) k
        rw [nI_1]
        exact nI_ge (by omega) (by omega)
    rw [wL_law_1449]
    simp (disch := omega) only [lw_c2, h1, pl_cc, pl_vc, pl_le8, pl_le32, pl_lt64, pl_lt1, pl_lt8, pl_lt32, nI_pos, nI_pos', vp_in_nI, nI_clamp, nI_1, nI_leI, nI_ltI, nI_eq, forall_eq, true_implies, forall_const, not_true_eq_false, not_false_eq_true, false_implies, and_true, true_and, implies_true, and_self, eq_self]
    by_cases u0 : u < 1
    · have e : u = 0 := by omega
      subst e
      simp (disch := omega) only [wL_law_1501, wL_law_1502, u0, pl_cc, pl_vc, pl_le8, pl_le32, pl_lt64, pl_lt1, pl_lt8, pl_lt32, nI_pos, nI_pos', vp_in_nI, nI_clamp, nI_1, nI_leI, nI_ltI, nI_eq, forall_eq, true_implies, forall_const, not_true_eq_false, not_false_eq_true, false_implies, and_true, true_and, implies_true, and_self, eq_self]
      exact keep vt v hV
    · by_cases uc : ck < u
      · simp (disch := omega) only [wL_law_1501, wL_law_1502, u0, uc, pl_cc, pl_vc, pl_le8, pl_le32, pl_lt64, pl_lt1, pl_lt8, pl_lt32, nI_pos, nI_pos', vp_in_nI, nI_clamp, nI_1, nI_leI, nI_ltI, nI_eq, forall_eq, true_implies, forall_const, not_true_eq_false, not_false_eq_true, false_implies, and_true, true_and, implies_true, and_self, eq_self]
        refine keep vt v ?_
        rcases hV with ⟨e1, e2, hn⟩ | ⟨t, lt, f3, g, le, e1, e2, hm⟩
        · exact Or.inl ⟨e1, e2, fun t lt f g l => hn t lt f g (by have := (hTP t lt).2; omega)⟩
        · exact Or.inr ⟨t, lt, f3, g, by omega, e1, e2, fun t' lt' f g' l => hm t' lt' f g' (by have := (hTP t' lt').2; omega)⟩
      · have uc' : u ≤ ck := by omega
        -- no committed transaction of this row has the stamp u: nothing changes
        have same : (∀ t, t < bg → P t = u → yf t = 3 → yg (t * 8 + r) = 0) → lw_Ver bg P yf yg yv r u vt v := by
          intro hno
          have st : ∀ t, t < bg → yf t = 3 → yg (t * 8 + r) ≠ 0 → P t ≤ u → P t ≤ u - 1 := by
            intro t lt f g l
            have ne : P t ≠ u := fun e => g (hno t lt e f)
            omega
          rcases hV with ⟨e1, e2, hn⟩ | ⟨t, lt, f3, g, le, e1, e2, hm⟩
          · exact Or.inl ⟨e1, e2, fun t lt f g l => hn t lt f g (st t lt f g l)⟩
          · exact Or.inr ⟨t, lt, f3, g, by omega, e1, e2, fun t' lt' f g' l => hm t' lt' f g' (st t' lt' f g' l)⟩
        simp (disch := omega) only [u0, uc, pl_cc, pl_vc, pl_le8, pl_le32, pl_lt64, pl_lt1, pl_lt8, pl_lt32, nI_pos, nI_pos', vp_in_nI, nI_clamp, nI_1, nI_leI, nI_ltI, nI_eq, forall_eq, true_implies, forall_const, not_true_eq_false, not_false_eq_true, false_implies, and_true, true_and, implies_true, and_self, eq_self]
        rw [lw_p1 (by omega), lw_s3 (by omega), lw_a7 (by omega)]
        refine lw_sel (by omega) (lw_at (by omega) ?_)
        have eo : pb_f (lw_W o0 o1 o2 o3 ((u - 1) / 8)) (8 * ((u - 1) % 8)) 8 = lw_O (lw_W o0 o1 o2 o3) u := rfl
        rw [eo]
        by_cases z : lw_O (lw_W o0 o1 o2 o3) u = 0
        · rw [z, nI_0]
          unfold wL_law_1502
          refine br_t rfl (keep vt v (same ?_))
          intro t lt e f
          have := iOO.1 t lt (by omega)
          rw [e, z] at this
          have := (hTS t lt).2.1
          omega
        · obtain ⟨t, lt, e⟩ := iOO.2 u (by omega) (by omega) z
          have eS := iOO.1 t lt (by omega)
          rw [e] at eS
          have sS := hTS t lt
          rw [eS]
          have only : ∀ t', t' < bg → P t' = u → t' = t := by
            intro t' lt' e'
            rcases hTJ t' t lt' lt (by omega) with y | y
            · omega
            · exact y
          unfold wL_law_1502
          refine br_f (nI_ne0 (by omega) (by omega)) ?_
          by_cases f3 : yf t = 3
          · have bt : pb_g dn (S t) = true := by
              rcases hk t lt with ⟨y, _⟩ | ⟨y, _⟩ | ⟨_, y⟩ | ⟨y, _⟩
              · rw [y] at f3; exact absurd f3 (by decide)
              · rw [y] at f3; exact absurd f3 (by decide)
              · exact y.2.2
              · rw [y] at f3; exact absurd f3 (by decide)
            refine br_f (fun y => by rw [pb_tst2 _ (by omega), bt] at y; exact absurd y (by decide)) ?_
            rw [lw_p1 (by omega), lw_2]
            rw [lw_q3 _ (by omega)]
            obtain ⟨w1', w2'⟩ := iWW.1 r t hr lt
            have fl := pb_fl (lw_W w0 w1 w2 w3 r) (2 * (S t - 1)) 2
            refine nm_e ?_
            by_cases q0 : pb_f (lw_W w0 w1 w2 w3 r) (2 * (S t - 1)) 2 = 0
            · rw [q0, nI_0]
              refine br_t rfl (keep vt v (same ?_))
              intro t' lt' e' f'
              rw [only t' lt' e']
              exact w1'.mp q0
            · refine br_f (nI_ne0 (by omega) (by omega)) ?_
              refine lw_val (by omega) ?_
              rw [← w2' q0]
              refine keep (nI u) (yv (t * 8 + r)) (Or.inr ⟨t, lt, f3, fun y => q0 (w1'.mpr y), by omega, by rw [e], rfl, fun t' _ _ _ l => by omega⟩)
          · have bt : pb_g dn (S t) = false := by
              rcases hk t lt with ⟨_, y⟩ | ⟨_, y⟩ | ⟨y, _⟩ | ⟨_, y⟩
              · exact y.2.2
              · exact y.2.2
              · exact absurd y f3
              · exact y.2.2
            refine br_t ((pb_tst2 _ (by omega)).mpr bt) (keep vt v (same ?_))
            intro t' lt' e' f'
            rw [only t' lt' e'] at f'
            exact absurd f' f3
theorem lw_rl (H : pl_R nc nr nl nt ck bg S P M ph xs xp xq xg xv xf xl xc xh xw xz ym yf ys yp yq yl yg yv) (HI : lw_I nc nr nt ck bg S P M yf yg yv w0 w1 w2 w3 o0 o1 o2 o3 cu rm be st) (hk : ∀ t, t < bg → lw_kp S yf bo de dn t)
    (hJ : J197 w0 w1 w2 w3 o0 o1 o2 o3 cu rm be bo de dn st (nI ck) an (jj + 1) (nI nc) (nI nr) (nI nl) (nI nt) (nI ck) (nI bg) ph xs xp xq xg xv xf xl xc xh xw xz) : ∀ d i, i + d = nr → wL_law_1419 post L xs0 J98 J197 (nI nc) (nI nr) w0 w1 w2 w3 o0 o1 o2 o3 cu rm be bo de dn st (nI ck) kk aa bb op cc dd r0 re an jj kc ks (nI nc) (nI nr) (nI nl) (nI nt) (nI ck) (nI bg) ph xs xp xq xg xv xf xl xc xh xw xz (d + 1) (nI i) := by
  have hb := pl_b H
  have hT3 : ∀ t, t < bg → yf t = 3 → P t ≠ 0 := fun t ht => H.2.2.2.2.2.2.2.1 t (by omega)
  intro d
  induction d with
  | zero =>
    intro i hi
    have e : i = nr := by omega
    subst e
    exact br_t (nI_le (Nat.le_refl i) (by omega)) (nm_e hJ)
  | succ d ih =>
    intro i hi
    have k := ih (i + 1) (by omega)
    rw [← nI_1] at k
    rw [wL_law_1419]
    refine br_f (nI_ge (by omega) (by omega)) (lw_sel (by have := HI.2.1; omega) ⟨ck + 3 + 1 + 1, ?_⟩)
    -- the time before all others, then the rest
    have v0 : lw_Ver bg P yf yg yv i 0 (-1) (-1) := Or.inl ⟨rfl, rfl, fun t lt f g l => hT3 t lt f (by omega)⟩
    have k0 := lw_tl (J1419 := wL_law_1419 post L xs0 J98 J197 (nI nc) (nI nr) w0 w1 w2 w3 o0 o1 o2 o3 cu rm be bo de dn st (nI ck) kk aa bb op cc dd r0 re an jj kc ks (nI nc) (nI nr) (nI nl) (nI nt) (nI ck) (nI bg) ph xs xp xq xg xv xf xl xc xh xw xz (d + 1)) (L := L) (post := post) (xs0 := xs0) (J98 := J98) (J197 := J197) (kk := kk) (aa := aa) (bb := bb) (op := op) (cc := cc) (dd := dd) (r0 := r0) (re := re) (an := an) (jj := jj) (kc := kc) (ks := ks) H HI hk (r := i) (by omega) k (ck + 3) 0 (-1) (-1) (by omega) v0
    rw [wL_law_1449]
    have e1 : ¬ nI ck + 2 < -1 := fun y => by
      rw [lw_c2] at y
      exact absurd (Int32.lt_trans y (by decide : (-1 : Int32) < 0)) (nI_pos (by omega))
    refine br_f e1 (br_t (by decide) ?_)
    unfold wL_law_1501 wL_law_1502
    refine br_t rfl (lw_1557 (z := -2147483648) H (by omega) v0 (fun q l1 l2 => ⟨fun y => ?_, fun y => by omega⟩) (Or.inr (Or.inr ⟨by decide, rfl⟩)) ?_)
    · exact absurd (Int32.le_trans (nI_pos' (n := q) (by omega)) y) (by decide)
    · rw [show (-1 : Int32) + 1 = nI 0 from rfl]
      exact k0
end LWB
