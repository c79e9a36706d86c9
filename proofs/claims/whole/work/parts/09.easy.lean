section PLI
variable {nc nr nl nt ck bg : Nat} {S P M : Nat → Nat} {ph xs xp xq xg xv xf xl xc xh xw xz ym yf ys yp yq yl yg yv : Nat → Int32}
/-! the constructors -/
theorem pl_u0 {c : Nat} : upd (fun _ => 0) c 0 = fun _ => 0 := by
  funext j
  unfold upd
  split <;> rfl
theorem pl_zr0 {c : Nat} : pl_zr c (fun _ => 0) = fun _ => 0 := by
  funext j
  unfold pl_zr
  split <;> rfl
theorem px_in2 {post : SX → Prop} {f0 f1 f2 f3 f4 f5 : Int32} (hp : ∀ xh, (∀ r, r < 8 → xh r = -1) → post (f0, f1, f2, f3, f4, f5, ph, xs, xp, xq, xg, xv, xf, xl, xc, xh, xw, xz)) : ∀ d i xh, i + d = 8 → (∀ r, r < i → xh r = -1) → wX_init_183 post f0 f1 f2 f3 f4 f5 (d + 1) (nI i) ph xs xp xq xg xv xf xl xc xh xw xz := by
  intro d
  induction d with
  | zero =>
    intro i xh hi h
    have e : i = 8 := by omega
    subst e
    exact br_t (nI_le (Nat.le_refl 8) (by decide)) (hp xh h)
  | succ d ih =>
    intro i xh hi h
    have h8 : ¬ 8 ≤ i := by omega
    have k := ih (i + 1) (upd xh i (-1)) (by omega) (lt_s (fun r l => by rw [pl_un (by omega)]; exact h r l) pl_us)
    rw [wX_init_183]
    simp (disch := omega) only [h8, pl_cc, pl_vc, pl_le8, pl_le32, pl_lt64, pl_lt1, pl_lt8, pl_lt32, nI_pos, nI_pos', vp_in_nI, nI_clamp, nI_1, nI_leI, nI_ltI, nI_eq, forall_eq, true_implies, forall_const, not_true_eq_false, not_false_eq_true, false_implies, and_true, true_and, implies_true, and_self, eq_self]
    exact k
theorem px_in1 {post : SX → Prop} {f0 f1 f2 f3 f4 f5 : Int32} (hp : ∀ xs xp xq xh, (∀ c, c < 8 → xs c = -1 ∧ xp c = -1 ∧ xq c = -1) → (∀ r, r < 8 → xh r = -1) → post (f0, f1, f2, f3, f4, f5, (fun _ => 0), xs, xp, xq, (fun _ => 0), xv, xf, xl, xc, xh, xw, xz)) : ∀ d i xs xp xq, i + d = 8 → (∀ c, c < i → xs c = -1 ∧ xp c = -1 ∧ xq c = -1) → wX_init_161 post (d + 1) (nI i) f0 f1 f2 f3 f4 f5 (fun _ => 0) xs xp xq (fun _ => 0) xv xf xl xc xh xw xz := by
  intro d
  induction d with
  | zero =>
    intro i xs xp xq hi h
    have e : i = 8 := by omega
    subst e
    have k := px_in2 (f0 := f0) (f1 := f1) (f2 := f2) (f3 := f3) (f4 := f4) (f5 := f5) (fun xh' h' => hp xs xp xq xh' h h') 8 0 xh rfl lt_0
    rw [nI_0] at k
    exact br_t (nI_le (Nat.le_refl 8) (by decide)) ⟨9, k⟩
  | succ d ih =>
    intro i xs xp xq hi h
    have k := ih (i + 1) (upd xs i (-1)) (upd xp i (-1)) (upd xq i (-1)) (by omega) (lt_s (fun r l => by rw [pl_un (by omega), pl_un (by omega), pl_un (by omega)]; exact h r l) ⟨pl_us, pl_us, pl_us⟩)
    rw [wX_init_161]
    refine br_f (nI_ge (b := 8) (by omega) (by decide)) (px_idle (by omega) ?_)
    rw [pl_u0, pl_zr0]
    intro y ey
    rw [ey, nI_1]
    exact k
theorem pl_clamp (p : Int32) (a b : Nat) (hab : a ≤ b) (hb : b < 2 ^ 31) : ∃ n, a ≤ n ∧ n ≤ b ∧ (∀ post : Int32 → Prop, post (nI n) → wpX_clamp post p (nI a) (nI b)) ∧ (∀ (post : Int32 → Prop) (u : SY), post (nI n) → wpY_clamp post u p (nI a) (nI b)) := by
  by_cases h1 : nI a ≤ p
  · have h0 : ¬ p < 0 := Int32.not_lt.mpr (Int32.le_trans (nI_pos' (by omega)) h1)
    obtain ⟨j, hj, rfl⟩ := nI_of h0
    by_cases h2 : nI j ≤ nI b
    · exact ⟨j, (nI_leI (by omega) hj).mp h1, (nI_leI hj hb).mp h2, fun post h => br_t h1 (br_t h2 h), fun post u h => br_t h1 (br_t h2 h)⟩
    · exact ⟨b, hab, Nat.le_refl b, fun post h => br_t h1 (br_f h2 h), fun post u h => br_t h1 (br_f h2 h)⟩
  · exact ⟨a, Nat.le_refl a, hab, fun post h => br_f h1 h, fun post u h => br_f h1 h⟩
theorem i_vc0 (k0 : Int32) (k1 : Int32) (k2 : Int32) (k3 : Int32) : wpX_init (fun u => wpY_init (fun v => i_Rel 4 u v) k0 k1 k2 k3) k0 k1 k2 k3 := by
  obtain ⟨n0, a0, b0, x0, y0⟩ := pl_clamp k0 1 8 (by decide) (by decide)
  obtain ⟨n1, a1, b1, x1, y1⟩ := pl_clamp k1 2 8 (by decide) (by decide)
  obtain ⟨n2, a2, b2, x2, y2⟩ := pl_clamp k2 1 100 (by decide) (by decide)
  obtain ⟨n3, a3, b3, x3, y3⟩ := pl_clamp k3 8 32 (by decide) (by decide)
  refine x0 _ (x1 _ (x2 _ (x3 _ ⟨9, ?_⟩)))
  refine px_in1 (f0 := nI n0) (f1 := nI n1) (f2 := nI n2) (f3 := nI n3) (f4 := 0) (f5 := 0) (xh := fun _ => 0) ?_ 8 0 (fun _ => 0) (fun _ => 0) (fun _ => 0) rfl lt_0
  intro xs xp xq xh h1 h2
  refine y0 _ _ (y1 _ _ (y2 _ _ (y3 _ _ ?_)))
  exact pl_mk (pl_start ⟨a0, b0⟩ ⟨a1, b1⟩ ⟨a2, b2⟩ ⟨a3, b3⟩ (fun _ _ => rfl) (fun c h => (h1 c h).1) (fun c h => (h1 c h).2.1) (fun c h => (h1 c h).2.2) (fun _ _ => rfl) h2 _ _ _ _ _ _ _ _ _)
/-! the methods without a loop -/
theorem i_vc_begin {k : Nat} {u : SX} {v : SY} (I : i_Rel k u v) (hk : k + 4 ≤ 2052) (v1 : Int32) : wpX_begin (fun r u' => wpY_begin (fun r' v' => r' = r ∧ i_Rel (k + 4) u' v') v v1) u v1 := by
  obtain ⟨nc, nr, nl, nt, ck, bg, S, P, M, ph, xs, xp, xq, xg, xv, xf, xl, xc, xh, xw, xz, ym, yf, ys, yp, yq, yl, yg, yv, rfl, rfl, H⟩ := I
  have hb := pl_b H
  rcases pl_ix v1 (n := nc) (by omega) with h | ⟨h, h', h''⟩ | ⟨c, hc, rfl⟩
  · simp (disch := omega) only [wpX_begin, wpX_isClient, wpY_begin, wpY_badClient, h, pl_nq, pl_cc, pl_vc, pl_le8, pl_le32, pl_lt64, pl_lt1, pl_lt8, pl_lt32, nI_pos, nI_pos', vp_in_nI, nI_clamp, nI_1, nI_leI, nI_ltI, nI_eq, forall_eq, true_implies, forall_const, not_true_eq_false, not_false_eq_true, false_implies, and_true, true_and, implies_true, and_self, eq_self]
    exact pl_mk H
  · simp (disch := omega) only [wpX_begin, wpX_isClient, wpY_begin, wpY_badClient, h, h', h'', pl_nq, pl_cc, pl_vc, pl_le8, pl_le32, pl_lt64, pl_lt1, pl_lt8, pl_lt32, nI_pos, nI_pos', vp_in_nI, nI_clamp, nI_1, nI_leI, nI_ltI, nI_eq, forall_eq, true_implies, forall_const, not_true_eq_false, not_false_eq_true, false_implies, and_true, true_and, implies_true, and_self, eq_self]
    exact pl_mk H
  · have hc' : ¬ nc ≤ c := by omega
    rcases pl_cl H (c := c) (by omega) with ⟨m0, p0, _⟩ | ⟨t, m1, lt, p0, _⟩
    · by_cases l : bg < nt
      · simp (disch := omega) only [wpX_begin, wpX_isClient, wpX_drawTimestamp, wpY_begin, wpY_badClient, hc, hc', p0, l, pl_nq, pl_cc, pl_vc, pl_le8, pl_le32, pl_lt64, pl_lt1, pl_lt8, pl_lt32, nI_pos, nI_pos', vp_in_nI, nI_clamp, nI_1, nI_leI, nI_ltI, nI_eq, forall_eq, true_implies, forall_const, not_true_eq_false, not_false_eq_true, false_implies, and_true, true_and, implies_true, and_self, eq_self]
        exact pl_mk (pl_beg H (by omega) m0 l)
      · simp (disch := omega) only [wpX_begin, wpX_isClient, wpX_drawTimestamp, wpY_begin, wpY_badClient, hc, hc', p0, l, pl_nq, pl_cc, pl_vc, pl_le8, pl_le32, pl_lt64, pl_lt1, pl_lt8, pl_lt32, nI_pos, nI_pos', vp_in_nI, nI_clamp, nI_1, nI_leI, nI_ltI, nI_eq, forall_eq, true_implies, forall_const, not_true_eq_false, not_false_eq_true, false_implies, and_true, true_and, implies_true, and_self, eq_self]
        exact pl_mk H
    · simp (disch := omega) only [wpX_begin, wpX_isClient, wpX_drawTimestamp, wpY_begin, wpY_badClient, hc, hc', p0, pl_nq, pl_cc, pl_vc, pl_le8, pl_le32, pl_lt64, pl_lt1, pl_lt8, pl_lt32, nI_pos, nI_pos', vp_in_nI, nI_clamp, nI_1, nI_leI, nI_ltI, nI_eq, forall_eq, true_implies, forall_const, not_true_eq_false, not_false_eq_true, false_implies, and_true, true_and, implies_true, and_self, eq_self]
      exact pl_mk H
theorem i_vc_put {k : Nat} {u : SX} {v : SY} (I : i_Rel k u v) (hk : k + 4 ≤ 2052) (v1 : Int32) (v2 : Int32) (v3 : Int32) : wpX_put (fun r u' => wpY_put (fun r' v' => r' = r ∧ i_Rel (k + 4) u' v') v v1 v2 v3) u v1 v2 v3 := by
  obtain ⟨nc, nr, nl, nt, ck, bg, S, P, M, ph, xs, xp, xq, xg, xv, xf, xl, xc, xh, xw, xz, ym, yf, ys, yp, yq, yl, yg, yv, rfl, rfl, H⟩ := I
  have hb := pl_b H
  rcases pl_ix v1 (n := nc) (by omega) with h | ⟨h, h', h''⟩ | ⟨c, hc, rfl⟩
  · simp (disch := omega) only [wpX_put, wpX_isClient, wpY_put, wpY_badClient, h, pl_nq, pl_cc, pl_vc, pl_le8, pl_le32, pl_lt64, pl_lt1, pl_lt8, pl_lt32, nI_pos, nI_pos', vp_in_nI, nI_clamp, nI_1, nI_leI, nI_ltI, nI_eq, forall_eq, true_implies, forall_const, not_true_eq_false, not_false_eq_true, false_implies, and_true, true_and, implies_true, and_self, eq_self]
    exact pl_mk H
  · simp (disch := omega) only [wpX_put, wpX_isClient, wpY_put, wpY_badClient, h, h', h'', pl_nq, pl_cc, pl_vc, pl_le8, pl_le32, pl_lt64, pl_lt1, pl_lt8, pl_lt32, nI_pos, nI_pos', vp_in_nI, nI_clamp, nI_1, nI_leI, nI_ltI, nI_eq, forall_eq, true_implies, forall_const, not_true_eq_false, not_false_eq_true, false_implies, and_true, true_and, implies_true, and_self, eq_self]
    exact pl_mk H
  · have hc' : ¬ nc ≤ c := by omega
    rcases pl_ix v2 (n := nr) (by omega) with h | ⟨h, h', h''⟩ | ⟨r, hr, rfl⟩
    · simp (disch := omega) only [wpX_put, wpX_isClient, wpX_isRow, wpY_put, wpY_badClient, wpY_badRow, hc, hc', h, pl_nq, pl_cc, pl_vc, pl_le8, pl_le32, pl_lt64, pl_lt1, pl_lt8, pl_lt32, nI_pos, nI_pos', vp_in_nI, nI_clamp, nI_1, nI_leI, nI_ltI, nI_eq, forall_eq, true_implies, forall_const, not_true_eq_false, not_false_eq_true, false_implies, and_true, true_and, implies_true, and_self, eq_self]
      exact pl_mk H
    · simp (disch := omega) only [wpX_put, wpX_isClient, wpX_isRow, wpY_put, wpY_badClient, wpY_badRow, hc, hc', h, h', h'', pl_nq, pl_cc, pl_vc, pl_le8, pl_le32, pl_lt64, pl_lt1, pl_lt8, pl_lt32, nI_pos, nI_pos', vp_in_nI, nI_clamp, nI_1, nI_leI, nI_ltI, nI_eq, forall_eq, true_implies, forall_const, not_true_eq_false, not_false_eq_true, false_implies, and_true, true_and, implies_true, and_self, eq_self]
      exact pl_mk H
    · have hr' : ¬ nr ≤ r := by omega
      by_cases w1 : v3 < -1
      · simp (disch := omega) only [wpX_put, wpX_isClient, wpX_isRow, wpY_put, wpY_badClient, wpY_badRow, hc, hc', hr, hr', w1, pl_nq, pl_cc, pl_vc, pl_le8, pl_le32, pl_lt64, pl_lt1, pl_lt8, pl_lt32, nI_pos, nI_pos', vp_in_nI, nI_clamp, nI_1, nI_leI, nI_ltI, nI_eq, forall_eq, true_implies, forall_const, not_true_eq_false, not_false_eq_true, false_implies, and_true, true_and, implies_true, and_self, eq_self]
        exact pl_mk H
      · by_cases w2 : v3 ≤ 9999
        · rcases pl_cl H (c := c) (by omega) with ⟨m0, p0, _⟩ | ⟨t, m1, lt, p0, em, _⟩
          · simp (disch := omega) only [wpX_put, wpX_isClient, wpX_isRow, wpY_put, wpY_badClient, wpY_badRow, hc, hc', hr, hr', w1, w2, p0, pl_nq, pl_cc, pl_vc, pl_le8, pl_le32, pl_lt64, pl_lt1, pl_lt8, pl_lt32, nI_pos, nI_pos', vp_in_nI, nI_clamp, nI_1, nI_leI, nI_ltI, nI_eq, forall_eq, true_implies, forall_const, not_true_eq_false, not_false_eq_true, false_implies, and_true, true_and, implies_true, and_self, eq_self]
            exact pl_mk H
          · by_cases p1 : ph c = 1
            · simp (disch := omega) only [wpX_put, wpX_isClient, wpX_isRow, wpX_clientCell, wpY_put, wpY_badClient, wpY_badRow, hc, hc', hr, hr', w1, w2, p1, em, pl_nq, pl_cc, pl_vc, pl_le8, pl_le32, pl_lt64, pl_lt1, pl_lt8, pl_lt32, nI_pos, nI_pos', vp_in_nI, nI_clamp, nI_1, nI_leI, nI_ltI, nI_eq, forall_eq, true_implies, forall_const, not_true_eq_false, not_false_eq_true, false_implies, and_true, true_and, implies_true, and_self, eq_self]
              exact pl_mk (pl_put H (by omega) m1 p1 hr)
            · simp (disch := omega) only [wpX_put, wpX_isClient, wpX_isRow, wpY_put, wpY_badClient, wpY_badRow, hc, hc', hr, hr', w1, w2, p0, p1, pl_nq, pl_cc, pl_vc, pl_le8, pl_le32, pl_lt64, pl_lt1, pl_lt8, pl_lt32, nI_pos, nI_pos', vp_in_nI, nI_clamp, nI_1, nI_leI, nI_ltI, nI_eq, forall_eq, true_implies, forall_const, not_true_eq_false, not_false_eq_true, false_implies, and_true, true_and, implies_true, and_self, eq_self]
              exact pl_mk H
        · simp (disch := omega) only [wpX_put, wpX_isClient, wpX_isRow, wpY_put, wpY_badClient, wpY_badRow, hc, hc', hr, hr', w1, w2, pl_nq, pl_cc, pl_vc, pl_le8, pl_le32, pl_lt64, pl_lt1, pl_lt8, pl_lt32, nI_pos, nI_pos', vp_in_nI, nI_clamp, nI_1, nI_leI, nI_ltI, nI_eq, forall_eq, true_implies, forall_const, not_true_eq_false, not_false_eq_true, false_implies, and_true, true_and, implies_true, and_self, eq_self]
          exact pl_mk H
theorem i_vc_heartbeat {k : Nat} {u : SX} {v : SY} (I : i_Rel k u v) (hk : k + 4 ≤ 2052) (v1 : Int32) : wpX_heartbeat (fun r u' => wpY_heartbeat (fun r' v' => r' = r ∧ i_Rel (k + 4) u' v') v v1) u v1 := by
  obtain ⟨nc, nr, nl, nt, ck, bg, S, P, M, ph, xs, xp, xq, xg, xv, xf, xl, xc, xh, xw, xz, ym, yf, ys, yp, yq, yl, yg, yv, rfl, rfl, H⟩ := I
  have hb := pl_b H
  rcases pl_ix v1 (n := nc) (by omega) with h | ⟨h, h', h''⟩ | ⟨c, hc, rfl⟩
  · simp (disch := omega) only [wpX_heartbeat, wpX_isClient, wpY_heartbeat, wpY_badClient, h, pl_nq, pl_cc, pl_vc, pl_le8, pl_le32, pl_lt64, pl_lt1, pl_lt8, pl_lt32, nI_pos, nI_pos', vp_in_nI, nI_clamp, nI_1, nI_leI, nI_ltI, nI_eq, forall_eq, true_implies, forall_const, not_true_eq_false, not_false_eq_true, false_implies, and_true, true_and, implies_true, and_self, eq_self]
    exact pl_mk H
  · simp (disch := omega) only [wpX_heartbeat, wpX_isClient, wpY_heartbeat, wpY_badClient, h, h', h'', pl_nq, pl_cc, pl_vc, pl_le8, pl_le32, pl_lt64, pl_lt1, pl_lt8, pl_lt32, nI_pos, nI_pos', vp_in_nI, nI_clamp, nI_1, nI_leI, nI_ltI, nI_eq, forall_eq, true_implies, forall_const, not_true_eq_false, not_false_eq_true, false_implies, and_true, true_and, implies_true, and_self, eq_self]
    exact pl_mk H
  · have hc' : ¬ nc ≤ c := by omega
    rcases pl_cl H (c := c) (by omega) with ⟨m0, p0, _⟩ | ⟨t, m1, lt, p0, em, es, et, l1, l2, ef, _⟩
    · simp (disch := omega) only [wpX_heartbeat, wpX_isClient, wpY_heartbeat, wpY_badClient, hc, hc', p0, pl_nq, pl_cc, pl_vc, pl_le8, pl_le32, pl_lt64, pl_lt1, pl_lt8, pl_lt32, nI_pos, nI_pos', vp_in_nI, nI_clamp, nI_1, nI_leI, nI_ltI, nI_eq, forall_eq, true_implies, forall_const, not_true_eq_false, not_false_eq_true, false_implies, and_true, true_and, implies_true, and_self, eq_self]
      exact pl_mk H
    · by_cases p1 : ph c = 1
      · simp (disch := omega) only [wpX_heartbeat, wpX_isClient, wpY_heartbeat, wpY_badClient, hc, hc', p1, pl_nq, pl_cc, pl_vc, pl_le8, pl_le32, pl_lt64, pl_lt1, pl_lt8, pl_lt32, nI_pos, nI_pos', vp_in_nI, nI_clamp, nI_1, nI_leI, nI_ltI, nI_eq, forall_eq, true_implies, forall_const, not_true_eq_false, not_false_eq_true, false_implies, and_true, true_and, implies_true, and_self, eq_self]
        exact pl_mk H
      · by_cases p4 : ph c = 4
        · simp (disch := omega) only [wpX_heartbeat, wpX_isClient, wpY_heartbeat, wpY_badClient, hc, hc', p4, pl_nq, pl_cc, pl_vc, pl_le8, pl_le32, pl_lt64, pl_lt1, pl_lt8, pl_lt32, nI_pos, nI_pos', vp_in_nI, nI_clamp, nI_1, nI_leI, nI_ltI, nI_eq, forall_eq, true_implies, forall_const, not_true_eq_false, not_false_eq_true, false_implies, and_true, true_and, implies_true, and_self, eq_self]
          exact pl_mk H
        · by_cases f4 : yf t = 4
          · simp (disch := omega) only [wpX_heartbeat, wpX_isClient, wpY_heartbeat, wpY_badClient, hc, hc', p0, p1, p4, em, es, ef, f4, pl_nq, pl_cc, pl_vc, pl_le8, pl_le32, pl_lt64, pl_lt1, pl_lt8, pl_lt32, nI_pos, nI_pos', vp_in_nI, nI_clamp, nI_1, nI_leI, nI_ltI, nI_eq, forall_eq, true_implies, forall_const, not_true_eq_false, not_false_eq_true, false_implies, and_true, true_and, implies_true, and_self, eq_self]
            exact pl_mk H
          · simp (disch := omega) only [wpX_heartbeat, wpX_isClient, wpY_heartbeat, wpY_badClient, hc, hc', p0, p1, p4, em, es, ef, f4, pl_nq, pl_cc, pl_vc, pl_le8, pl_le32, pl_lt64, pl_lt1, pl_lt8, pl_lt32, nI_pos, nI_pos', vp_in_nI, nI_clamp, nI_1, nI_leI, nI_ltI, nI_eq, forall_eq, true_implies, forall_const, not_true_eq_false, not_false_eq_true, false_implies, and_true, true_and, implies_true, and_self, eq_self]
            exact pl_mk (pl_beat H lt)
theorem i_vc_crash {k : Nat} {u : SX} {v : SY} (I : i_Rel k u v) (hk : k + 4 ≤ 2052) (v1 : Int32) : wpX_crash (fun r u' => wpY_crash (fun r' v' => r' = r ∧ i_Rel (k + 4) u' v') v v1) u v1 := by
  obtain ⟨nc, nr, nl, nt, ck, bg, S, P, M, ph, xs, xp, xq, xg, xv, xf, xl, xc, xh, xw, xz, ym, yf, ys, yp, yq, yl, yg, yv, rfl, rfl, H⟩ := I
  have hb := pl_b H
  rcases pl_ix v1 (n := nc) (by omega) with h | ⟨h, h', h''⟩ | ⟨c, hc, rfl⟩
  · simp (disch := omega) only [wpX_crash, wpX_isClient, wpY_crash, wpY_badClient, h, pl_nq, pl_cc, pl_vc, pl_le8, pl_le32, pl_lt64, pl_lt1, pl_lt8, pl_lt32, nI_pos, nI_pos', vp_in_nI, nI_clamp, nI_1, nI_leI, nI_ltI, nI_eq, forall_eq, true_implies, forall_const, not_true_eq_false, not_false_eq_true, false_implies, and_true, true_and, implies_true, and_self, eq_self]
    exact pl_mk H
  · simp (disch := omega) only [wpX_crash, wpX_isClient, wpY_crash, wpY_badClient, h, h', h'', pl_nq, pl_cc, pl_vc, pl_le8, pl_le32, pl_lt64, pl_lt1, pl_lt8, pl_lt32, nI_pos, nI_pos', vp_in_nI, nI_clamp, nI_1, nI_leI, nI_ltI, nI_eq, forall_eq, true_implies, forall_const, not_true_eq_false, not_false_eq_true, false_implies, and_true, true_and, implies_true, and_self, eq_self]
    exact pl_mk H
  · have hc' : ¬ nc ≤ c := by omega
    rcases pl_cl H (c := c) (by omega) with ⟨m0, p0, _⟩ | ⟨t, m1, lt, p0, _⟩
    · simp (disch := omega) only [wpX_crash, wpX_isClient, wpY_crash, wpY_badClient, hc, hc', p0, pl_nq, pl_cc, pl_vc, pl_le8, pl_le32, pl_lt64, pl_lt1, pl_lt8, pl_lt32, nI_pos, nI_pos', vp_in_nI, nI_clamp, nI_1, nI_leI, nI_ltI, nI_eq, forall_eq, true_implies, forall_const, not_true_eq_false, not_false_eq_true, false_implies, and_true, true_and, implies_true, and_self, eq_self]
      exact pl_mk H
    · simp (disch := omega) only [wpX_crash, wpX_isClient, wpY_crash, wpY_badClient, hc, hc', p0, pl_nq, pl_cc, pl_vc, pl_le8, pl_le32, pl_lt64, pl_lt1, pl_lt8, pl_lt32, nI_pos, nI_pos', vp_in_nI, nI_clamp, nI_1, nI_leI, nI_ltI, nI_eq, forall_eq, true_implies, forall_const, not_true_eq_false, not_false_eq_true, false_implies, and_true, true_and, implies_true, and_self, eq_self]
      refine px_idle (by omega) ?_
      exact pl_mk (pl_idle H (c := c) (by omega))
theorem i_vc_abandon {k : Nat} {u : SX} {v : SY} (I : i_Rel k u v) (hk : k + 4 ≤ 2052) (v1 : Int32) : wpX_abandon (fun r u' => wpY_abandon (fun r' v' => r' = r ∧ i_Rel (k + 4) u' v') v v1) u v1 := by
  obtain ⟨nc, nr, nl, nt, ck, bg, S, P, M, ph, xs, xp, xq, xg, xv, xf, xl, xc, xh, xw, xz, ym, yf, ys, yp, yq, yl, yg, yv, rfl, rfl, H⟩ := I
  have hb := pl_b H
  rcases pl_ix v1 (n := nc) (by omega) with h | ⟨h, h', h''⟩ | ⟨c, hc, rfl⟩
  · simp (disch := omega) only [wpX_abandon, wpX_isClient, wpY_abandon, wpY_badClient, h, pl_nq, pl_cc, pl_vc, pl_le8, pl_le32, pl_lt64, pl_lt1, pl_lt8, pl_lt32, nI_pos, nI_pos', vp_in_nI, nI_clamp, nI_1, nI_leI, nI_ltI, nI_eq, forall_eq, true_implies, forall_const, not_true_eq_false, not_false_eq_true, false_implies, and_true, true_and, implies_true, and_self, eq_self]
    exact pl_mk H
  · simp (disch := omega) only [wpX_abandon, wpX_isClient, wpY_abandon, wpY_badClient, h, h', h'', pl_nq, pl_cc, pl_vc, pl_le8, pl_le32, pl_lt64, pl_lt1, pl_lt8, pl_lt32, nI_pos, nI_pos', vp_in_nI, nI_clamp, nI_1, nI_leI, nI_ltI, nI_eq, forall_eq, true_implies, forall_const, not_true_eq_false, not_false_eq_true, false_implies, and_true, true_and, implies_true, and_self, eq_self]
    exact pl_mk H
  · have hc' : ¬ nc ≤ c := by omega
    rcases pl_cl H (c := c) (by omega) with ⟨m0, p0, _⟩ | ⟨t, m1, lt, p0, em, es, et, l1, l2, ef, _⟩
    · simp (disch := omega) only [wpX_abandon, wpX_isClient, wpY_abandon, wpY_badClient, hc, hc', p0, pl_nq, pl_cc, pl_vc, pl_le8, pl_le32, pl_lt64, pl_lt1, pl_lt8, pl_lt32, nI_pos, nI_pos', vp_in_nI, nI_clamp, nI_1, nI_leI, nI_ltI, nI_eq, forall_eq, true_implies, forall_const, not_true_eq_false, not_false_eq_true, false_implies, and_true, true_and, implies_true, and_self, eq_self]
      exact pl_mk H
    · by_cases p4 : ph c = 4
      · simp (disch := omega) only [wpX_abandon, wpX_isClient, wpY_abandon, wpY_badClient, hc, hc', p4, pl_nq, pl_cc, pl_vc, pl_le8, pl_le32, pl_lt64, pl_lt1, pl_lt8, pl_lt32, nI_pos, nI_pos', vp_in_nI, nI_clamp, nI_1, nI_leI, nI_ltI, nI_eq, forall_eq, true_implies, forall_const, not_true_eq_false, not_false_eq_true, false_implies, and_true, true_and, implies_true, and_self, eq_self]
        exact pl_mk H
      · have H' := pl_idle H (c := c) (by omega)
        by_cases f4 : yf t = 4
        · simp (disch := omega) only [wpX_abandon, wpX_isClient, wpY_abandon, wpY_badClient, hc, hc', p0, p4, em, es, f4, pl_nq, pl_cc, pl_vc, pl_le8, pl_le32, pl_lt64, pl_lt1, pl_lt8, pl_lt32, nI_pos, nI_pos', vp_in_nI, nI_clamp, nI_1, nI_leI, nI_ltI, nI_eq, forall_eq, true_implies, forall_const, not_true_eq_false, not_false_eq_true, false_implies, and_true, true_and, implies_true, and_self, eq_self]
          refine px_idle (by omega) ?_
          simp (disch := omega) only [ef, f4, pl_cc, pl_vc, pl_le8, pl_le32, pl_lt64, pl_lt1, pl_lt8, pl_lt32, nI_pos, nI_pos', vp_in_nI, nI_clamp, nI_1, nI_leI, nI_ltI, nI_eq, forall_eq, true_implies, forall_const, not_true_eq_false, not_false_eq_true, false_implies, and_true, true_and, implies_true, and_self, eq_self]
          exact pl_mk H'
        · by_cases f2 : yf t = 2
          · simp (disch := omega) only [wpX_abandon, wpX_isClient, wpY_abandon, wpY_badClient, hc, hc', p0, p4, em, es, f2, pl_nq, pl_cc, pl_vc, pl_le8, pl_le32, pl_lt64, pl_lt1, pl_lt8, pl_lt32, nI_pos, nI_pos', vp_in_nI, nI_clamp, nI_1, nI_leI, nI_ltI, nI_eq, forall_eq, true_implies, forall_const, not_true_eq_false, not_false_eq_true, false_implies, and_true, true_and, implies_true, and_self, eq_self]
            refine px_idle (by omega) ?_
            simp (disch := omega) only [ef, f2, pl_nq, pl_cc, pl_vc, pl_le8, pl_le32, pl_lt64, pl_lt1, pl_lt8, pl_lt32, nI_pos, nI_pos', vp_in_nI, nI_clamp, nI_1, nI_leI, nI_ltI, nI_eq, forall_eq, true_implies, forall_const, not_true_eq_false, not_false_eq_true, false_implies, and_true, true_and, implies_true, and_self, eq_self]
            refine px_roll (by omega) (by omega) ?_
            exact pl_mk (pl_roll H' lt f2)
          · simp (disch := omega) only [wpX_abandon, wpX_isClient, wpY_abandon, wpY_badClient, hc, hc', p0, p4, em, es, f4, f2, pl_nq, pl_cc, pl_vc, pl_le8, pl_le32, pl_lt64, pl_lt1, pl_lt8, pl_lt32, nI_pos, nI_pos', vp_in_nI, nI_clamp, nI_1, nI_leI, nI_ltI, nI_eq, forall_eq, true_implies, forall_const, not_true_eq_false, not_false_eq_true, false_implies, and_true, true_and, implies_true, and_self, eq_self]
            refine px_idle (by omega) ?_
            simp (disch := omega) only [ef, f4, f2, pl_cc, pl_vc, pl_le8, pl_le32, pl_lt64, pl_lt1, pl_lt8, pl_lt32, nI_pos, nI_pos', vp_in_nI, nI_clamp, nI_1, nI_leI, nI_ltI, nI_eq, forall_eq, true_implies, forall_const, not_true_eq_false, not_false_eq_true, false_implies, and_true, true_and, implies_true, and_self, eq_self]
            exact pl_mk H'
theorem i_vc_tick {k : Nat} {u : SX} {v : SY} (I : i_Rel k u v) (hk : k + 4 ≤ 2052) (v1 : Int32) : wpX_tick (fun r u' => wpY_tick (fun r' v' => r' = r ∧ i_Rel (k + 4) u' v') v v1) u v1 := by
  obtain ⟨nc, nr, nl, nt, ck, bg, S, P, M, ph, xs, xp, xq, xg, xv, xf, xl, xc, xh, xw, xz, ym, yf, ys, yp, yq, yl, yg, yv, rfl, rfl, H⟩ := I
  by_cases h : 1 ≤ v1
  · refine br_t h ⟨65, ?_⟩
    rw [← pl_xt_1 (n := v1) (xf := xf) (xl := xl)]
    refine px_tkl ?_ 64 1 (by decide) (by decide)
    refine br_t h ⟨33, ?_⟩
    rw [← pl_yt_0 (n := v1) (yf := yf) (yl := yl)]
    refine py_tkl ?_ 32 0 (by decide)
    exact ⟨rfl, pl_mk (pl_tick H v1)⟩
  · exact br_f h (br_f h ⟨rfl, pl_mk H⟩)
end PLI
