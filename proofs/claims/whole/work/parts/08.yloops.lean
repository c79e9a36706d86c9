section PLH
variable {nc nr nl nt ck bg : Nat} {S P M : Nat → Nat} {ph xs xp xq xg xv xf xl xc xh xw xz ym yf ys yp yq yl yg yv : Nat → Int32}
theorem py_hol {post : Int32 → Prop} {r : Nat} (hr : r < 8) (hs : ∀ t, t < 32 → yf t = 2 → yg (t * 8 + r) = 2 → post (nI t)) (hn : (∀ t, t < 32 → yf t = 2 → ¬ yg (t * 8 + r) = 2) → post (-1)) : ∀ d i, i + d = 32 → (∀ t, t < i → yf t = 2 → ¬ yg (t * 8 + r) = 2) → wY_holding_2 post (nI r) (nI nc) (nI nr) (nI nl) (nI nt) (nI ck) (nI bg) ph ym yf ys yp yq yl yg yv (d + 1) (nI i) := by
  intro d
  induction d with
  | zero =>
    intro i hi hb
    have e : i = 32 := by omega
    subst e
    exact br_t (nI_le (Nat.le_refl 32) (by decide)) (hn hb)
  | succ d ih =>
    intro i hi hb
    have h8 : ¬ 32 ≤ i := by omega
    by_cases a : yf i = 2
    · by_cases b : yg (i * 8 + r) = 2
      · simp (disch := omega) only [wY_holding_2, h8, a, b, pl_cc, pl_vc, pl_le8, pl_le32, pl_lt64, pl_lt1, pl_lt8, pl_lt32, nI_pos, nI_pos', vp_in_nI, nI_clamp, nI_1, nI_leI, nI_ltI, nI_eq, forall_eq, true_implies, forall_const, not_true_eq_false, not_false_eq_true, false_implies, and_true, true_and, implies_true, and_self, eq_self]
        exact hs i (by omega) a b
      · have k := ih (i + 1) (by omega) (lt_s hb (fun _ => b))
        rw [wY_holding_2]
        simp (disch := omega) only [h8, a, b, pl_cc, pl_vc, pl_le8, pl_le32, pl_lt64, pl_lt1, pl_lt8, pl_lt32, nI_pos, nI_pos', vp_in_nI, nI_clamp, nI_1, nI_leI, nI_ltI, nI_eq, forall_eq, true_implies, forall_const, not_true_eq_false, not_false_eq_true, false_implies, and_true, true_and, implies_true, and_self, eq_self]
        exact k
    · have k := ih (i + 1) (by omega) (lt_s hb (fun z => absurd z a))
      rw [wY_holding_2]
      simp (disch := omega) only [h8, a, pl_cc, pl_vc, pl_le8, pl_le32, pl_lt64, pl_lt1, pl_lt8, pl_lt32, nI_pos, nI_pos', vp_in_nI, nI_clamp, nI_1, nI_leI, nI_ltI, nI_eq, forall_eq, true_implies, forall_const, not_true_eq_false, not_false_eq_true, false_implies, and_true, true_and, implies_true, and_self, eq_self]
      exact k
theorem py_ho {post : Int32 → Prop} {r : Nat} (hr : r < 8) (hs : ∀ t, t < 32 → yf t = 2 → yg (t * 8 + r) = 2 → post (nI t)) (hn : (∀ t, t < 32 → yf t = 2 → ¬ yg (t * 8 + r) = 2) → post (-1)) : wpY_holding post (nI nc, nI nr, nI nl, nI nt, nI ck, nI bg, ph, ym, yf, ys, yp, yq, yl, yg, yv) (nI r) := by
  have k := py_hol (nc := nc) (nr := nr) (nl := nl) (nt := nt) (ck := ck) (bg := bg) (ph := ph) (ym := ym) (ys := ys) (yp := yp) (yq := yq) (yl := yl) (yv := yv) hr hs hn 32 0 rfl lt_0
  rw [nI_0] at k
  exact ⟨33, k⟩
def pl_Q (ts : Int32) (r : Nat) (P : Nat → Nat) (yf yg : Nat → Int32) (t : Nat) : Prop := yf t = 3 ∧ ¬ yg (t * 8 + r) = 0 ∧ ¬ ts < nI (P t)
def pl_I (ts : Int32) (r : Nat) (P : Nat → Nat) (yf yg : Nat → Int32) (i : Nat) (b : Int32) : Prop :=
  (b = -1 ∧ ∀ t, t < i → ¬ pl_Q ts r P yf yg t) ∨ ∃ t, t < i ∧ b = nI t ∧ pl_Q ts r P yf yg t ∧ ∀ t', t' < i → pl_Q ts r P yf yg t' → P t' ≤ P t
theorem pl_I_n {ts : Int32} {r i : Nat} {b : Int32} (h : pl_I ts r P yf yg i b) (q : ¬ pl_Q ts r P yf yg i) : pl_I ts r P yf yg (i + 1) b := by
  rcases h with ⟨h1, h2⟩ | ⟨t, h1, h2, h3, h4⟩
  · exact Or.inl ⟨h1, lt_s h2 q⟩
  · exact Or.inr ⟨t, by omega, h2, h3, lt_s h4 (fun z => absurd z q)⟩
theorem py_nwl {post : Int32 → Prop} {r : Nat} {ts : Int32} (hr : r < 8) (hP : ∀ t, t < 32 → yp t = nI (P t) ∧ P t ≤ 64) (hp : ∀ b, pl_I ts r P yf yg 32 b → post b) : ∀ d i b, i + d = 32 → pl_I ts r P yf yg i b → wY_newest_5 post (nI r) ts (nI nc) (nI nr) (nI nl) (nI nt) (nI ck) (nI bg) ph ym yf ys yp yq yl yg yv (d + 1) b (nI i) := by
  intro d
  induction d with
  | zero =>
    intro i b hi hb
    have e : i = 32 := by omega
    subst e
    exact br_t (nI_le (Nat.le_refl 32) (by decide)) (hp b hb)
  | succ d ih =>
    intro i b hi hb
    have h8 : ¬ 32 ≤ i := by omega
    obtain ⟨ep, lp⟩ := hP i (by omega)
    by_cases a : yf i = 3
    · by_cases g : yg (i * 8 + r) = 0
      · have k := ih (i + 1) b (by omega) (pl_I_n hb (fun z => z.2.1 g))
        rw [wY_newest_5]
        simp (disch := omega) only [h8, a, g, pl_cc, pl_vc, pl_le8, pl_le32, pl_lt64, pl_lt1, pl_lt8, pl_lt32, nI_pos, nI_pos', vp_in_nI, nI_clamp, nI_1, nI_leI, nI_ltI, nI_eq, forall_eq, true_implies, forall_const, not_true_eq_false, not_false_eq_true, false_implies, and_true, true_and, implies_true, and_self, eq_self]
        exact k
      · by_cases l : ts < nI (P i)
        · have k := ih (i + 1) b (by omega) (pl_I_n hb (fun z => z.2.2 l))
          rw [wY_newest_5]
          simp (disch := omega) only [h8, a, g, ep, l, pl_cc, pl_vc, pl_le8, pl_le32, pl_lt64, pl_lt1, pl_lt8, pl_lt32, nI_pos, nI_pos', vp_in_nI, nI_clamp, nI_1, nI_leI, nI_ltI, nI_eq, forall_eq, true_implies, forall_const, not_true_eq_false, not_false_eq_true, false_implies, and_true, true_and, implies_true, and_self, eq_self]
          exact k
        · have q : pl_Q ts r P yf yg i := ⟨a, g, l⟩
          rcases hb with ⟨h1, h2⟩ | ⟨t, h1, h2, h3, h4⟩
          · subst h1
            have k := ih (i + 1) (nI i) (by omega) (Or.inr ⟨i, by omega, rfl, q, lt_s (fun t' l' z => absurd z (h2 t' l')) (fun _ => Nat.le_refl _)⟩)
            rw [wY_newest_5]
            simp (disch := omega) only [h8, a, g, ep, l, pl_m1, pl_cc, pl_vc, pl_le8, pl_le32, pl_lt64, pl_lt1, pl_lt8, pl_lt32, nI_pos, nI_pos', vp_in_nI, nI_clamp, nI_1, nI_leI, nI_ltI, nI_eq, forall_eq, true_implies, forall_const, not_true_eq_false, not_false_eq_true, false_implies, and_true, true_and, implies_true, and_self, eq_self]
            exact k
          · subst h2
            obtain ⟨et, lt⟩ := hP t (by omega)
            by_cases m : P i ≤ P t
            · have k := ih (i + 1) (nI t) (by omega) (Or.inr ⟨t, by omega, rfl, h3, lt_s h4 (fun _ => m)⟩)
              rw [wY_newest_5]
              simp (disch := omega) only [h8, a, g, ep, et, l, m, pl_cc, pl_vc, pl_le8, pl_le32, pl_lt64, pl_lt1, pl_lt8, pl_lt32, nI_pos, nI_pos', vp_in_nI, nI_clamp, nI_1, nI_leI, nI_ltI, nI_eq, forall_eq, true_implies, forall_const, not_true_eq_false, not_false_eq_true, false_implies, and_true, true_and, implies_true, and_self, eq_self]
              exact k
            · have k := ih (i + 1) (nI i) (by omega) (Or.inr ⟨i, by omega, rfl, q, lt_s (fun t' l' z => Nat.le_trans (h4 t' l' z) (by omega)) (fun _ => Nat.le_refl _)⟩)
              rw [wY_newest_5]
              simp (disch := omega) only [h8, a, g, ep, et, l, m, pl_cc, pl_vc, pl_le8, pl_le32, pl_lt64, pl_lt1, pl_lt8, pl_lt32, nI_pos, nI_pos', vp_in_nI, nI_clamp, nI_1, nI_leI, nI_ltI, nI_eq, forall_eq, true_implies, forall_const, not_true_eq_false, not_false_eq_true, false_implies, and_true, true_and, implies_true, and_self, eq_self]
              exact k
    · have k := ih (i + 1) b (by omega) (pl_I_n hb (fun z => a z.1))
      rw [wY_newest_5]
      simp (disch := omega) only [h8, a, pl_cc, pl_vc, pl_le8, pl_le32, pl_lt64, pl_lt1, pl_lt8, pl_lt32, nI_pos, nI_pos', vp_in_nI, nI_clamp, nI_1, nI_leI, nI_ltI, nI_eq, forall_eq, true_implies, forall_const, not_true_eq_false, not_false_eq_true, false_implies, and_true, true_and, implies_true, and_self, eq_self]
      exact k
theorem py_nw {post : Int32 → Prop} {r : Nat} {ts : Int32} (hr : r < 8) (hP : ∀ t, t < 32 → yp t = nI (P t) ∧ P t ≤ 64) (hp : ∀ b, pl_I ts r P yf yg 32 b → post b) : wpY_newest post (nI nc, nI nr, nI nl, nI nt, nI ck, nI bg, ph, ym, yf, ys, yp, yq, yl, yg, yv) (nI r) ts := by
  have k := py_nwl (nc := nc) (nr := nr) (nl := nl) (nt := nt) (ck := ck) (bg := bg) (ph := ph) (ym := ym) (ys := ys) (yq := yq) (yl := yl) (yv := yv) hr hP hp 32 0 (-1) rfl (Or.inl ⟨rfl, lt_0⟩)
  rw [nI_0] at k
  exact ⟨33, k⟩
/-! the newest version, both sides -/
theorem pl_nwb (H : pl_R nc nr nl nt ck bg S P M ph xs xp xq xg xv xf xl xc xh xw xz ym yf ys yp yq yl yg yv) {r : Nat} (hr : r < 8) (tx ty : Int32) (A : Nat → Prop) (hX : ∀ q, q ≤ 64 → (nI q ≤ tx ↔ A q)) (hY : ∀ q, q ≤ 64 → (¬ ty < nI q ↔ A q)) :
    (∃ t, t < bg ∧ yf t = 3 ∧ 1 ≤ P t ∧ P t ≤ 64 ∧ yp t = nI (P t) ∧ xz (r * 65 + P t) = yv (t * 8 + r) ∧
      (∀ post : Int32 → Prop, post (nI (P t)) → wpX_newestVersion post (nI nc, nI nr, nI nl, nI nt, nI ck, nI bg, ph, xs, xp, xq, xg, xv, xf, xl, xc, xh, xw, xz) (nI r) tx) ∧ (∀ post : Int32 → Prop, post (nI t) → wpY_newest post (nI nc, nI nr, nI nl, nI nt, nI ck, nI bg, ph, ym, yf, ys, yp, yq, yl, yg, yv) (nI r) ty)) ∨
    ((∀ post : Int32 → Prop, post (-1) → wpX_newestVersion post (nI nc, nI nr, nI nl, nI nt, nI ck, nI bg, ph, xs, xp, xq, xg, xv, xf, xl, xc, xh, xw, xz) (nI r) tx) ∧ (∀ post : Int32 → Prop, post (-1) → wpY_newest post (nI nc, nI nr, nI nl, nI nt, nI ck, nI bg, ph, ym, yf, ys, yp, yq, yl, yg, yv) (nI r) ty)) := by
  have hb := pl_b H
  have hTP : ∀ t, t < 32 → yp t = nI (P t) ∧ P t ≤ 64 := fun t ht => by
    have := H.2.2.2.1 t ht
    exact ⟨this.1, by omega⟩
  rcases pl_new H hr A with ⟨t, h1, h2, h3, h4, h5, h6, h7, h8, h9, h10, h11⟩ | ⟨h1, h2⟩
  · refine Or.inl ⟨t, h1, h2, h5, h6, h7, h9, ?_, ?_⟩
    · intro post hp
      exact px_new_s hr h5 h6 h8 ((hX _ h6).mpr h4) (fun q a b d => h10 q a b ((hX q b).mp d)) hp
    · intro post hp
      refine py_nw hr hTP ?_
      intro b hI
      have q0 : pl_Q ty r P yf yg t := ⟨h2, h3, (hY _ h6).mpr h4⟩
      rcases hI with ⟨e, z⟩ | ⟨t', l, e, q, z⟩
      · exact absurd q0 (z t (by omega))
      · by_cases n : t' = t
        · rw [e, n]; exact hp
        · have a := z t (by omega) q0
          have b := h11 t' l q.1 q.2.1 ((hY _ (hTP t' l).2).mp q.2.2) n
          omega
  · refine Or.inr ⟨fun post hp => px_new_n hr (fun q a b d => h1 q a b ((hX q b).mp d)) hp, fun post hp => ?_⟩
    refine py_nw hr hTP ?_
    intro b hI
    rcases hI with ⟨e, z⟩ | ⟨t', l, e, q, z⟩
    · rw [e]; exact hp
    · exact absurd ((hY _ (hTP t' l).2).mp q.2.2) (h2 t' l q.1 q.2.1)
/-! the reference's own loops -/
theorem py_stl {post : Int32 → SY → Prop} {c t : Nat} (hc : c < 8) (ht : t < 32) (h1 : ∀ r, r < 8 → yg (t * 8 + r) = 1 → post (-4) (nI nc, nI nr, nI nl, nI nt, nI ck, nI bg, ph, ym, yf, ys, yp, yq, yl, yg, yv)) (h0 : (∀ r, r < 8 → ¬ yg (t * 8 + r) = 1) → post (nI (ck + 1)) (nI nc, nI nr, nI nl, nI nt, nI (ck + 1), nI bg, upd ph c 3, ym, yf, ys, upd yp t (nI (ck + 1)), yq, yl, yg, yv)) : ∀ d i, i + d = 8 → (∀ r, r < i → ¬ yg (t * 8 + r) = 1) → wY_stamp_45 post (nI c) (nI t) (nI nc) (nI nr) (nI nl) (nI nt) (nI ck) (nI bg) ph ym yf ys yp yq yl yg yv (d + 1) (nI i) := by
  intro d
  induction d with
  | zero =>
    intro i hi hb
    have e : i = 8 := by omega
    subst e
    have k := h0 hb
    have h8 : 8 ≤ 8 := Nat.le_refl 8
    rw [wY_stamp_45]
    simp (disch := omega) only [h8, pl_cc, pl_vc, pl_le8, pl_le32, pl_lt64, pl_lt1, pl_lt8, pl_lt32, nI_pos, nI_pos', vp_in_nI, nI_clamp, nI_1, nI_leI, nI_ltI, nI_eq, forall_eq, true_implies, forall_const, not_true_eq_false, not_false_eq_true, false_implies, and_true, true_and, implies_true, and_self, eq_self]
    exact k
  | succ d ih =>
    intro i hi hb
    have h8 : ¬ 8 ≤ i := by omega
    by_cases z : yg (t * 8 + i) = 1
    · simp (disch := omega) only [wY_stamp_45, h8, z, pl_cc, pl_vc, pl_le8, pl_le32, pl_lt64, pl_lt1, pl_lt8, pl_lt32, nI_pos, nI_pos', vp_in_nI, nI_clamp, nI_1, nI_leI, nI_ltI, nI_eq, forall_eq, true_implies, forall_const, not_true_eq_false, not_false_eq_true, false_implies, and_true, true_and, implies_true, and_self, eq_self]
      exact h1 i (by omega) z
    · have k := ih (i + 1) (by omega) (lt_s hb z)
      rw [wY_stamp_45]
      simp (disch := omega) only [h8, z, pl_cc, pl_vc, pl_le8, pl_le32, pl_lt64, pl_lt1, pl_lt8, pl_lt32, nI_pos, nI_pos', vp_in_nI, nI_clamp, nI_1, nI_leI, nI_ltI, nI_eq, forall_eq, true_implies, forall_const, not_true_eq_false, not_false_eq_true, false_implies, and_true, true_and, implies_true, and_self, eq_self]
      exact k
theorem py_st {post : Int32 → SY → Prop} {c t : Nat} (hc : c < 8) (ht : t < 32) (h1 : ∀ r, r < 8 → yg (t * 8 + r) = 1 → post (-4) (nI nc, nI nr, nI nl, nI nt, nI ck, nI bg, ph, ym, yf, ys, yp, yq, yl, yg, yv)) (h0 : (∀ r, r < 8 → ¬ yg (t * 8 + r) = 1) → post (nI (ck + 1)) (nI nc, nI nr, nI nl, nI nt, nI (ck + 1), nI bg, upd ph c 3, ym, yf, ys, upd yp t (nI (ck + 1)), yq, yl, yg, yv)) : ∃ n, wY_stamp_45 post (nI c) (nI t) (nI nc) (nI nr) (nI nl) (nI nt) (nI ck) (nI bg) ph ym yf ys yp yq yl yg yv n 0 := by
  have k := py_stl hc ht h1 h0 8 0 rfl lt_0
  rw [nI_0] at k
  exact ⟨9, k⟩
theorem py_cml {post : Int32 → SY → Prop} {c t : Nat} (hc : c < 8) (ht : t < 32) (h1 : ∀ r, r < 8 → ¬ yg (t * 8 + r) = 0 → ¬ yg (t * 8 + r) = 3 → post 0 (nI nc, nI nr, nI nl, nI nt, nI ck, nI bg, ph, ym, yf, ys, yp, yq, yl, yg, yv)) (h0 : (∀ r, r < 8 → yg (t * 8 + r) = 0 ∨ yg (t * 8 + r) = 3) → post 0 (nI nc, nI nr, nI nl, nI nt, nI ck, nI bg, upd ph c 0, ym, yf, ys, yp, yq, yl, yg, yv)) : ∀ d i b, i + d = 8 → ((b = 1 ∧ ∀ r, r < i → yg (t * 8 + r) = 0 ∨ yg (t * 8 + r) = 3) ∨ (b = 0 ∧ ∃ r, r < 8 ∧ ¬ yg (t * 8 + r) = 0 ∧ ¬ yg (t * 8 + r) = 3)) → wY_commit_170 post (nI c) (nI t) (nI nc) (nI nr) (nI nl) (nI nt) (nI ck) (nI bg) ph ym yf ys yp yq yl yg yv (d + 1) b (nI i) := by
  intro d
  induction d with
  | zero =>
    intro i b hi hb
    have e : i = 8 := by omega
    subst e
    have h8 : 8 ≤ 8 := Nat.le_refl 8
    rcases hb with ⟨e, hb⟩ | ⟨e, r, l, a, b'⟩
    · subst e
      have k := h0 hb
      rw [wY_commit_170]
      simp (disch := omega) only [h8, pl_nq, pl_cc, pl_vc, pl_le8, pl_le32, pl_lt64, pl_lt1, pl_lt8, pl_lt32, nI_pos, nI_pos', vp_in_nI, nI_clamp, nI_1, nI_leI, nI_ltI, nI_eq, forall_eq, true_implies, forall_const, not_true_eq_false, not_false_eq_true, false_implies, and_true, true_and, implies_true, and_self, eq_self]
      exact k
    · subst e
      have k := h1 r l a b'
      rw [wY_commit_170]
      simp (disch := omega) only [h8, pl_cc, pl_vc, pl_le8, pl_le32, pl_lt64, pl_lt1, pl_lt8, pl_lt32, nI_pos, nI_pos', vp_in_nI, nI_clamp, nI_1, nI_leI, nI_ltI, nI_eq, forall_eq, true_implies, forall_const, not_true_eq_false, not_false_eq_true, false_implies, and_true, true_and, implies_true, and_self, eq_self]
      exact k
  | succ d ih =>
    intro i b hi hb
    have h8 : ¬ 8 ≤ i := by omega
    by_cases z : yg (t * 8 + i) = 0
    · have k := ih (i + 1) b (by omega) (hb.imp (fun y => ⟨y.1, lt_s y.2 (Or.inl z)⟩) id)
      rw [wY_commit_170]
      simp (disch := omega) only [h8, z, pl_cc, pl_vc, pl_le8, pl_le32, pl_lt64, pl_lt1, pl_lt8, pl_lt32, nI_pos, nI_pos', vp_in_nI, nI_clamp, nI_1, nI_leI, nI_ltI, nI_eq, forall_eq, true_implies, forall_const, not_true_eq_false, not_false_eq_true, false_implies, and_true, true_and, implies_true, and_self, eq_self]
      exact k
    · by_cases y : yg (t * 8 + i) = 3
      · have k := ih (i + 1) b (by omega) (hb.imp (fun w => ⟨w.1, lt_s w.2 (Or.inr y)⟩) id)
        rw [wY_commit_170]
        simp (disch := omega) only [h8, y, pl_nq, pl_cc, pl_vc, pl_le8, pl_le32, pl_lt64, pl_lt1, pl_lt8, pl_lt32, nI_pos, nI_pos', vp_in_nI, nI_clamp, nI_1, nI_leI, nI_ltI, nI_eq, forall_eq, true_implies, forall_const, not_true_eq_false, not_false_eq_true, false_implies, and_true, true_and, implies_true, and_self, eq_self]
        exact k
      · have k := ih (i + 1) 0 (by omega) (Or.inr ⟨rfl, i, by omega, z, y⟩)
        rw [wY_commit_170]
        simp (disch := omega) only [h8, z, y, pl_cc, pl_vc, pl_le8, pl_le32, pl_lt64, pl_lt1, pl_lt8, pl_lt32, nI_pos, nI_pos', vp_in_nI, nI_clamp, nI_1, nI_leI, nI_ltI, nI_eq, forall_eq, true_implies, forall_const, not_true_eq_false, not_false_eq_true, false_implies, and_true, true_and, implies_true, and_self, eq_self]
        exact k
theorem py_cm {post : Int32 → SY → Prop} {c t : Nat} (hc : c < 8) (ht : t < 32) (h1 : ∀ r, r < 8 → ¬ yg (t * 8 + r) = 0 → ¬ yg (t * 8 + r) = 3 → post 0 (nI nc, nI nr, nI nl, nI nt, nI ck, nI bg, ph, ym, yf, ys, yp, yq, yl, yg, yv)) (h0 : (∀ r, r < 8 → yg (t * 8 + r) = 0 ∨ yg (t * 8 + r) = 3) → post 0 (nI nc, nI nr, nI nl, nI nt, nI ck, nI bg, upd ph c 0, ym, yf, ys, yp, yq, yl, yg, yv)) : ∃ n, wY_commit_170 post (nI c) (nI t) (nI nc) (nI nr) (nI nl) (nI nt) (nI ck) (nI bg) ph ym yf ys yp yq yl yg yv n 1 0 := by
  have k := py_cml hc ht h1 h0 8 0 1 rfl (Or.inl ⟨rfl, lt_0⟩)
  rw [nI_0] at k
  exact ⟨9, k⟩
theorem py_lll {post : Int32 → Prop} {s : Int32} (hs : ∀ t, t < 32 → yf t = 2 → ys t = s → post (yl t)) (hn : (∀ t, t < 32 → yf t = 2 → ¬ ys t = s) → post (-1)) : ∀ d i, i + d = 32 → (∀ t, t < i → yf t = 2 → ¬ ys t = s) → wY_leaseLeft_2 post s (nI nc) (nI nr) (nI nl) (nI nt) (nI ck) (nI bg) ph ym yf ys yp yq yl yg yv (d + 1) (nI i) := by
  intro d
  induction d with
  | zero =>
    intro i hi hb
    have e : i = 32 := by omega
    subst e
    exact br_t (nI_le (Nat.le_refl 32) (by decide)) (hn hb)
  | succ d ih =>
    intro i hi hb
    have h8 : ¬ 32 ≤ i := by omega
    by_cases a : yf i = 2
    · by_cases b : ys i = s
      · simp (disch := omega) only [wY_leaseLeft_2, h8, a, b, pl_cc, pl_vc, pl_le8, pl_le32, pl_lt64, pl_lt1, pl_lt8, pl_lt32, nI_pos, nI_pos', vp_in_nI, nI_clamp, nI_1, nI_leI, nI_ltI, nI_eq, forall_eq, true_implies, forall_const, not_true_eq_false, not_false_eq_true, false_implies, and_true, true_and, implies_true, and_self, eq_self]
        exact hs i (by omega) a b
      · have k := ih (i + 1) (by omega) (lt_s hb (fun _ => b))
        rw [wY_leaseLeft_2]
        simp (disch := omega) only [h8, a, b, pl_cc, pl_vc, pl_le8, pl_le32, pl_lt64, pl_lt1, pl_lt8, pl_lt32, nI_pos, nI_pos', vp_in_nI, nI_clamp, nI_1, nI_leI, nI_ltI, nI_eq, forall_eq, true_implies, forall_const, not_true_eq_false, not_false_eq_true, false_implies, and_true, true_and, implies_true, and_self, eq_self]
        exact k
    · have k := ih (i + 1) (by omega) (lt_s hb (fun z => absurd z a))
      rw [wY_leaseLeft_2]
      simp (disch := omega) only [h8, a, pl_cc, pl_vc, pl_le8, pl_le32, pl_lt64, pl_lt1, pl_lt8, pl_lt32, nI_pos, nI_pos', vp_in_nI, nI_clamp, nI_1, nI_leI, nI_ltI, nI_eq, forall_eq, true_implies, forall_const, not_true_eq_false, not_false_eq_true, false_implies, and_true, true_and, implies_true, and_self, eq_self]
      exact k
theorem py_ll {post : Int32 → Prop} {s : Int32} (hs : ∀ t, t < 32 → yf t = 2 → ys t = s → post (yl t)) (hn : (∀ t, t < 32 → yf t = 2 → ¬ ys t = s) → post (-1)) : wpY_leaseLeft post (nI nc, nI nr, nI nl, nI nt, nI ck, nI bg, ph, ym, yf, ys, yp, yq, yl, yg, yv) s := by
  have k := py_lll (nc := nc) (nr := nr) (nl := nl) (nt := nt) (ck := ck) (bg := bg) (ph := ph) (ym := ym) (yp := yp) (yq := yq) (yg := yg) (yv := yv) hs hn 32 0 rfl lt_0
  rw [nI_0] at k
  exact ⟨33, k⟩
theorem py_ftl {post : Int32 → Prop} {s : Int32} (h2 : ∀ t, t < 32 → yf t = 2 → ys t = s → post 0) (h3 : ∀ t, t < 32 → yf t = 3 → ys t = s → post (yp t)) (hn : (∀ t, t < 32 → yf t = 2 ∨ yf t = 3 → ¬ ys t = s) → post (-1)) : ∀ d i, i + d = 32 → (∀ t, t < i → yf t = 2 ∨ yf t = 3 → ¬ ys t = s) → wY_fate_2 post s (nI nc) (nI nr) (nI nl) (nI nt) (nI ck) (nI bg) ph ym yf ys yp yq yl yg yv (d + 1) (nI i) := by
  intro d
  induction d with
  | zero =>
    intro i hi hb
    have e : i = 32 := by omega
    subst e
    exact br_t (nI_le (Nat.le_refl 32) (by decide)) (hn hb)
  | succ d ih =>
    intro i hi hb
    have h8 : ¬ 32 ≤ i := by omega
    by_cases b : ys i = s
    · by_cases a : yf i = 2
      · rw [wY_fate_2]
        simp (disch := omega) only [wY_fate_35, h8, a, b, pl_nq, pl_cc, pl_vc, pl_le8, pl_le32, pl_lt64, pl_lt1, pl_lt8, pl_lt32, nI_pos, nI_pos', vp_in_nI, nI_clamp, nI_1, nI_leI, nI_ltI, nI_eq, forall_eq, true_implies, forall_const, not_true_eq_false, not_false_eq_true, false_implies, and_true, true_and, implies_true, and_self, eq_self]
        exact h2 i (by omega) a b
      · by_cases a' : yf i = 3
        · rw [wY_fate_2]
          simp (disch := omega) only [wY_fate_35, h8, a', b, pl_nq, pl_cc, pl_vc, pl_le8, pl_le32, pl_lt64, pl_lt1, pl_lt8, pl_lt32, nI_pos, nI_pos', vp_in_nI, nI_clamp, nI_1, nI_leI, nI_ltI, nI_eq, forall_eq, true_implies, forall_const, not_true_eq_false, not_false_eq_true, false_implies, and_true, true_and, implies_true, and_self, eq_self]
          exact h3 i (by omega) a' b
        · have k := ih (i + 1) (by omega) (lt_s hb (fun z => z.elim (fun y => absurd y a) (fun y => absurd y a')))
          rw [wY_fate_2]
          simp (disch := omega) only [wY_fate_35, h8, a, a', pl_cc, pl_vc, pl_le8, pl_le32, pl_lt64, pl_lt1, pl_lt8, pl_lt32, nI_pos, nI_pos', vp_in_nI, nI_clamp, nI_1, nI_leI, nI_ltI, nI_eq, forall_eq, true_implies, forall_const, not_true_eq_false, not_false_eq_true, false_implies, and_true, true_and, implies_true, and_self, eq_self]
          exact k
    · have k := ih (i + 1) (by omega) (lt_s hb (fun _ => b))
      by_cases a : yf i = 2
      · rw [wY_fate_2]
        simp (disch := omega) only [wY_fate_35, h8, a, b, pl_nq, pl_cc, pl_vc, pl_le8, pl_le32, pl_lt64, pl_lt1, pl_lt8, pl_lt32, nI_pos, nI_pos', vp_in_nI, nI_clamp, nI_1, nI_leI, nI_ltI, nI_eq, forall_eq, true_implies, forall_const, not_true_eq_false, not_false_eq_true, false_implies, and_true, true_and, implies_true, and_self, eq_self]
        exact k
      · by_cases a' : yf i = 3
        · rw [wY_fate_2]
          simp (disch := omega) only [wY_fate_35, h8, a', b, pl_nq, pl_cc, pl_vc, pl_le8, pl_le32, pl_lt64, pl_lt1, pl_lt8, pl_lt32, nI_pos, nI_pos', vp_in_nI, nI_clamp, nI_1, nI_leI, nI_ltI, nI_eq, forall_eq, true_implies, forall_const, not_true_eq_false, not_false_eq_true, false_implies, and_true, true_and, implies_true, and_self, eq_self]
          exact k
        · rw [wY_fate_2]
          simp (disch := omega) only [wY_fate_35, h8, a, a', pl_cc, pl_vc, pl_le8, pl_le32, pl_lt64, pl_lt1, pl_lt8, pl_lt32, nI_pos, nI_pos', vp_in_nI, nI_clamp, nI_1, nI_leI, nI_ltI, nI_eq, forall_eq, true_implies, forall_const, not_true_eq_false, not_false_eq_true, false_implies, and_true, true_and, implies_true, and_self, eq_self]
          exact k
theorem py_ft {post : Int32 → Prop} {s : Int32} (h2 : ∀ t, t < 32 → yf t = 2 → ys t = s → post 0) (h3 : ∀ t, t < 32 → yf t = 3 → ys t = s → post (yp t)) (hn : (∀ t, t < 32 → yf t = 2 ∨ yf t = 3 → ¬ ys t = s) → post (-1)) : wpY_fate post (nI nc, nI nr, nI nl, nI nt, nI ck, nI bg, ph, ym, yf, ys, yp, yq, yl, yg, yv) s := by
  have k := py_ftl (nc := nc) (nr := nr) (nl := nl) (nt := nt) (ck := ck) (bg := bg) (ph := ph) (ym := ym) (yq := yq) (yl := yl) (yg := yg) (yv := yv) h2 h3 hn 32 0 rfl lt_0
  rw [nI_0] at k
  exact ⟨33, k⟩
/-! tick's loops -/
theorem py_tkl {post : Int32 → SY → Prop} {n : Int32} (hp : post 0 (nI nc, nI nr, nI nl, nI nt, nI ck, nI bg, ph, ym, yf, ys, yp, yq, pl_yt n yf yl 32, yg, yv)) : ∀ d i, i + d = 32 → wY_tick_10 post n (nI nc) (nI nr) (nI nl) (nI nt) (nI ck) (nI bg) (d + 1) (nI i) ph ym yf ys yp yq (pl_yt n yf yl i) yg yv := by
  intro d
  induction d with
  | zero =>
    intro i hi
    have e : i = 32 := by omega
    subst e
    exact br_t (nI_le (Nat.le_refl 32) (by decide)) hp
  | succ d ih =>
    intro i hi
    have h8 : ¬ 32 ≤ i := by omega
    have k := ih (i + 1) (by omega)
    rw [pl_yt_s] at k
    by_cases a : yf i = 2
    · rw [if_pos a] at k
      by_cases b : n < yl i
      · have e : pl_lz n (yl i) = yl i - n := if_neg (Int32.not_le.mpr b)
        rw [e] at k
        rw [wY_tick_10]
        simp (disch := omega) only [h8, a, b, pl_yt_i, pl_cc, pl_vc, pl_le8, pl_le32, pl_lt64, pl_lt1, pl_lt8, pl_lt32, nI_pos, nI_pos', vp_in_nI, nI_clamp, nI_1, nI_leI, nI_ltI, nI_eq, forall_eq, true_implies, forall_const, not_true_eq_false, not_false_eq_true, false_implies, and_true, true_and, implies_true, and_self, eq_self]
        exact k
      · have e : pl_lz n (yl i) = 0 := if_pos (Int32.not_lt.mp b)
        rw [e] at k
        rw [wY_tick_10]
        simp (disch := omega) only [h8, a, b, pl_yt_i, pl_cc, pl_vc, pl_le8, pl_le32, pl_lt64, pl_lt1, pl_lt8, pl_lt32, nI_pos, nI_pos', vp_in_nI, nI_clamp, nI_1, nI_leI, nI_ltI, nI_eq, forall_eq, true_implies, forall_const, not_true_eq_false, not_false_eq_true, false_implies, and_true, true_and, implies_true, and_self, eq_self]
        exact k
    · rw [if_neg a] at k
      rw [wY_tick_10]
      simp (disch := omega) only [h8, a, pl_cc, pl_vc, pl_le8, pl_le32, pl_lt64, pl_lt1, pl_lt8, pl_lt32, nI_pos, nI_pos', vp_in_nI, nI_clamp, nI_1, nI_leI, nI_ltI, nI_eq, forall_eq, true_implies, forall_const, not_true_eq_false, not_false_eq_true, false_implies, and_true, true_and, implies_true, and_self, eq_self]
      exact k
theorem px_tkl {post : Int32 → SX → Prop} {n : Int32} (hp : post 0 (nI nc, nI nr, nI nl, nI nt, nI ck, nI bg, ph, xs, xp, xq, xg, xv, xf, pl_xt n xf xl 65, xc, xh, xw, xz)) : ∀ d i, 1 ≤ i → i + d = 65 → wX_tick_10 post n (nI nc) (nI nr) (nI nl) (nI nt) (nI ck) (nI bg) (d + 1) (nI i) ph xs xp xq xg xv xf (pl_xt n xf xl i) xc xh xw xz := by
  intro d
  induction d with
  | zero =>
    intro i h1 hi
    have e : i = 65 := by omega
    subst e
    exact br_t (nI_lt (a := 64) (by decide) (by decide)) hp
  | succ d ih =>
    intro i h1 hi
    have h8 : ¬ 64 < i := by omega
    have k := ih (i + 1) (by omega) (by omega)
    rw [pl_xt_s h1] at k
    by_cases a : xf i = 2
    · rw [if_pos a] at k
      by_cases b : n < xl i
      · have e : pl_lz n (xl i) = xl i - n := if_neg (Int32.not_le.mpr b)
        rw [e] at k
        rw [wX_tick_10]
        simp (disch := omega) only [h8, a, b, pl_xt_i, pl_cc, pl_vc, pl_le8, pl_le32, pl_lt64, pl_lt1, pl_lt8, pl_lt32, nI_pos, nI_pos', vp_in_nI, nI_clamp, nI_1, nI_leI, nI_ltI, nI_eq, forall_eq, true_implies, forall_const, not_true_eq_false, not_false_eq_true, false_implies, and_true, true_and, implies_true, and_self, eq_self]
        exact k
      · have e : pl_lz n (xl i) = 0 := if_pos (Int32.not_lt.mp b)
        rw [e] at k
        rw [wX_tick_10]
        simp (disch := omega) only [h8, a, b, pl_xt_i, pl_cc, pl_vc, pl_le8, pl_le32, pl_lt64, pl_lt1, pl_lt8, pl_lt32, nI_pos, nI_pos', vp_in_nI, nI_clamp, nI_1, nI_leI, nI_ltI, nI_eq, forall_eq, true_implies, forall_const, not_true_eq_false, not_false_eq_true, false_implies, and_true, true_and, implies_true, and_self, eq_self]
        exact k
    · rw [if_neg a] at k
      rw [wX_tick_10]
      simp (disch := omega) only [h8, a, pl_cc, pl_vc, pl_le8, pl_le32, pl_lt64, pl_lt1, pl_lt8, pl_lt32, nI_pos, nI_pos', vp_in_nI, nI_clamp, nI_1, nI_leI, nI_ltI, nI_eq, forall_eq, true_implies, forall_const, not_true_eq_false, not_false_eq_true, false_implies, and_true, true_and, implies_true, and_self, eq_self]
      exact k
end PLH
