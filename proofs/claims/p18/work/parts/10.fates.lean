section LWC
variable {nc nr nl nt ck bg : Nat} {S P M : Nat → Nat} {ph xs xp xq xg xv xf xl xc xh xw xz ym yf ys yp yq yl yg yv : Nat → Int32}
variable {w0 w1 w2 w3 o0 o1 o2 o3 cu rm be bo de dn st : Int64} {kk aa bb op cc dd r0 re an jj rr pa pr kd : Int32} {kc ks L s : Nat} {xs0 : Nat → Int32} {post : Int32 → Prop} {J98 : lw_T98} {J197 : lw_T197}
/-- a transaction's fate beside its bits, right behind a call: as they were, or the one change that the call may have made -/
def lw_sta (nr : Nat) (S P : Nat → Nat) (yf yg : Nat → Int32) (bo de dn rm : Int64) (kd an : Int32) (s : Nat) (rr pr pa : Int32) (t : Nat) : Prop :=
  lw_kp S yf bo de dn t ∨ (yf t = 2 ∧ lw_bt bo de dn (S t) false false false ∧ kd = 2 ∧ an = 0 ∧ S t = s) ∨
  (yf t = 4 ∧ lw_bt bo de dn (S t) true false false ∧ ((kd = 9 ∧ S t = s) ∨ ((kd = 2 ∨ kd = 5) ∧ S t ≠ s))) ∨
  (yf t = 3 ∧ lw_bt bo de dn (S t) true false false ∧ kd = 4 ∧ an = 0 ∧ S t = s ∧ rr = pr ∧ pa = 3 ∧ ∀ i, i < nr → yg (t * 8 + i) ≠ 0 → pb_f rm (8 * i) 8 < P t)
theorem lw_kp_c {bo' de' dn' : Int64} {t : Nat} (e1 : pb_g bo' (S t) = pb_g bo (S t)) (e2 : pb_g de' (S t) = pb_g de (S t)) (e3 : pb_g dn' (S t) = pb_g dn (S t)) (h : lw_kp S yf bo de dn t) : lw_kp S yf bo' de' dn' t := by
  unfold lw_kp lw_bt at h ⊢
  rw [e1, e2, e3]
  exact h
theorem lw_sta_c {bo' de' dn' : Int64} {t : Nat} (e1 : pb_g bo' (S t) = pb_g bo (S t)) (e2 : pb_g de' (S t) = pb_g de (S t)) (e3 : pb_g dn' (S t) = pb_g dn (S t)) (h : lw_sta nr S P yf yg bo de dn rm kd an s rr pr pa t) : lw_sta nr S P yf yg bo' de' dn' rm kd an s rr pr pa t := by
  unfold lw_sta lw_kp lw_bt at h ⊢
  rw [e1, e2, e3]
  exact h
theorem px_fate (H : pl_R nc nr nl nt ck bg S P M ph xs xp xq xg xv xf xl xc xh xw xz ym yf ys yp yq yl yg yv) {t : Nat} (lt : t < bg) {p : Int32 → Prop} (h3 : yf t = 3 → p (nI (P t))) (h2 : yf t = 2 → p 0) (h1 : ¬ yf t = 3 → ¬ yf t = 2 → p (-1)) : wpX_fate p (nI nc, nI nr, nI nl, nI nt, nI ck, nI bg, ph, xs, xp, xq, xg, xv, xf, xl, xc, xh, xw, xz) (nI (S t)) := by
  have hb := pl_b H
  obtain ⟨s1, s2, s3⟩ := H.2.1 t lt
  have ef : xf (S t) = yf t := H.2.2.2.2.2.2.2.2.2.2.2.2.2.1 t lt
  have q1 : ¬ S t < 1 := by omega
  have q2 : ¬ 64 < S t := by omega
  by_cases f3 : yf t = 3
  · have ec : xc (S t) = nI (P t) := H.2.2.2.2.2.2.2.2.2.2.2.2.2.2.2.1 t lt f3
    simp (disch := omega) only [wpX_fate, wpX_fateAt, q1, q2, ef, f3, ec, pl_cc, pl_vc, pl_le8, pl_le32, pl_lt64, pl_lt1, pl_lt8, pl_lt32, nI_pos, nI_pos', vp_in_nI, nI_clamp, nI_1, nI_leI, nI_ltI, nI_eq, forall_eq, true_implies, forall_const, not_true_eq_false, not_false_eq_true, false_implies, and_true, true_and, implies_true, and_self, eq_self]
    exact h3 f3
  · by_cases f2 : yf t = 2
    · simp (disch := omega) only [wpX_fate, wpX_fateAt, q1, q2, ef, f2, pl_nq, pl_cc, pl_vc, pl_le8, pl_le32, pl_lt64, pl_lt1, pl_lt8, pl_lt32, nI_pos, nI_pos', vp_in_nI, nI_clamp, nI_1, nI_leI, nI_ltI, nI_eq, forall_eq, true_implies, forall_const, not_true_eq_false, not_false_eq_true, false_implies, and_true, true_and, implies_true, and_self, eq_self]
      exact h2 f2
    · simp (disch := omega) only [wpX_fate, wpX_fateAt, q1, q2, ef, f3, f2, pl_cc, pl_vc, pl_le8, pl_le32, pl_lt64, pl_lt1, pl_lt8, pl_lt32, nI_pos, nI_pos', vp_in_nI, nI_clamp, nI_1, nI_leI, nI_ltI, nI_eq, forall_eq, true_implies, forall_const, not_true_eq_false, not_false_eq_true, false_implies, and_true, true_and, implies_true, and_self, eq_self]
      exact h1 f3 f2
/-- a newly committed transaction's stamp is above every reader of its rows -/
theorem lw_1309 {J1027 : Int64 → Int64 → Int64 → Int32 → Prop} {u t : Nat} (hn : nr ≤ 4) (hu : 1 ≤ u) (hu' : u ≤ 32) (hp : P t < 2 ^ 31) (hw : ∀ i, i < nr → (pb_f (lw_W w0 w1 w2 w3 i) (2 * (u - 1)) 2 = 0 ↔ yg (t * 8 + i) = 0)) (hr : ∀ i, i < nr → yg (t * 8 + i) ≠ 0 → pb_f rm (8 * i) 8 < P t) (hJ : J1027 bo de dn (nI u + 1)) :
    ∀ d i, i + d = nr → wL_law_1309 post L xs0 J98 J197 J1027 (nI nc) (nI nr) w0 w1 w2 w3 o0 o1 o2 o3 cu rm be bo de dn st (nI ck) kk aa bb op cc dd r0 re an jj rr pa pr kd (nI s) (nI u) (nI (P t)) kc ks (nI nc) (nI nr) (nI nl) (nI nt) (nI ck) (nI bg) ph xs xp xq xg xv xf xl xc xh xw xz (d + 1) (nI i) := by
  intro d
  induction d with
  | zero =>
    intro i hi
    have e : i = nr := by omega
    subst e
    exact br_t (nI_le (Nat.le_refl i) (by omega)) (nm_e hJ)
  | succ d ih =>
    intro i hi
    have k := ih (i + 1) (by omega)
    rw [wL_law_1309]
    refine br_f (nI_ge (by omega) (by omega)) (lw_sel (by omega) ?_)
    rw [lw_p1 hu, lw_2]
    refine br_c (fun _ => nm_r (nI_1 i) k) (fun z => lw_at (by omega) ?_)
    rw [lw_q0 _ (by omega), hw i (by omega)] at z
    have l := hr i (by omega) z
    exact br_t (nI_lt l hp) (nm_r (nI_1 i) k)
theorem lw_fl (H : pl_R nc nr nl nt ck bg S P M ph xs xp xq xg xv xf xl xc xh xw xz ym yf ys yp yq yl yg yv) (HI : lw_I nc nr nt ck bg S P M yf yg yv w0 w1 w2 w3 o0 o1 o2 o3 cu rm be st) (hs : s < 256)
    (hC : kd = 4 → an = 0 → ∃ t, t < bg ∧ S t = s ∧ yf t = 3) (hD : an = -11 → ∃ t, t < bg ∧ S t = s ∧ yf t = 4)
    (hJ : ∀ bo de dn, (∀ t, t < bg → lw_kp S yf bo de dn t) → lw_F ck bo de dn → J197 w0 w1 w2 w3 o0 o1 o2 o3 cu rm be bo de dn st (nI ck) an (jj + 1) (nI nc) (nI nr) (nI nl) (nI nt) (nI ck) (nI bg) ph xs xp xq xg xv xf xl xc xh xw xz) :
    ∀ d u bo de dn, u + d = ck + 1 → 1 ≤ u → (∀ t, t < bg → lw_kp S yf bo de dn t ∨ (u ≤ S t ∧ lw_sta nr S P yf yg bo de dn rm kd an s rr pr pa t)) → lw_F ck bo de dn → wL_law_1027 post L xs0 J98 J197 (nI nc) (nI nr) w0 w1 w2 w3 o0 o1 o2 o3 cu rm be st (nI ck) kk aa bb op cc dd r0 re an jj rr pa pr kd (nI s) kc ks (nI nc) (nI nr) (nI nl) (nI nt) (nI ck) (nI bg) ph xs xp xq xg xv xf xl xc xh xw xz (d + 1) bo de dn (nI u) := by
  have hb := pl_b H
  obtain ⟨i1, i2, i3, iB, iST, iCU, iWW, iOO, iRM, iK⟩ := HI
  have HI : lw_I nc nr nt ck bg S P M yf yg yv w0 w1 w2 w3 o0 o1 o2 o3 cu rm be st := ⟨i1, i2, i3, iB, iST, iCU, iWW, iOO, iRM, iK⟩
  have hTS : ∀ t, t < bg → ys t = nI (S t) ∧ 1 ≤ S t ∧ S t ≤ ck := H.2.1
  have hTI := H.2.2.1
  have hTP : ∀ t, t < bg → yp t = nI (P t) ∧ P t ≤ ck := fun t ht => H.2.2.2.1 t (by omega)
  have hT3 : ∀ t, t < bg → yf t = 3 → P t ≠ 0 := fun t ht => H.2.2.2.2.2.2.2.1 t (by omega)
  intro d
  induction d with
  | zero =>
    intro u bo de dn hu h1 hst hF
    have kp : ∀ t, t < bg → lw_kp S yf bo de dn t := by
      intro t lt
      rcases hst t lt with y | y
      · exact y
      · have := (hTS t lt).2.2
        omega
    have k0 := lw_rl (L := L) (post := post) (xs0 := xs0) (J98 := J98) (J197 := J197) (kk := kk) (aa := aa) (bb := bb) (op := op) (cc := cc) (dd := dd) (r0 := r0) (re := re) (an := an) (jj := jj) (kc := kc) (ks := ks) H HI kp (hJ bo de dn kp hF) nr 0 (by omega)
    rw [nI_0] at k0
    have k1 : wL_law_1395 post L xs0 J98 J197 (nI nc) (nI nr) w0 w1 w2 w3 o0 o1 o2 o3 cu rm be bo de dn st (nI ck) kk aa bb op cc dd r0 re an jj (nI s) kc ks (nI nc) (nI nr) (nI nl) (nI nt) (nI ck) (nI bg) ph xs xp xq xg xv xf xl xc xh xw xz := by
      unfold wL_law_1395
      refine br_c (fun e => ?_) (fun _ => ⟨nr + 1, k0⟩)
      obtain ⟨t, lt, eS, f4⟩ := hD e
      refine br_f (fun y => ?_) ⟨nr + 1, k0⟩
      rw [pb_tst2 _ (by have := (hTS t lt).2.2; omega), ← eS] at y
      rcases kp t lt with ⟨z, _⟩ | ⟨z, _⟩ | ⟨z, _⟩ | ⟨_, z⟩
      · rw [z] at f4; exact absurd f4 (by decide)
      · rw [z] at f4; exact absurd f4 (by decide)
      · rw [z] at f4; exact absurd f4 (by decide)
      · rw [z.2.1] at y; exact absurd y (by decide)
    refine br_t (nI_lt (by omega) (by omega)) (br_c (fun e4 => br_c (fun e0 => ?_) (fun _ => k1)) (fun _ => k1))
    obtain ⟨t, lt, eS, f3⟩ := hC e4 e0
    refine br_f (fun y => ?_) k1
    rw [pb_tst2 _ (by have := (hTS t lt).2.2; omega), ← eS] at y
    rcases kp t lt with ⟨z, _⟩ | ⟨z, _⟩ | ⟨_, z⟩ | ⟨z, _⟩
    · rw [z] at f3; exact absurd f3 (by decide)
    · rw [z] at f3; exact absurd f3 (by decide)
    · rw [z.2.2] at y; exact absurd y (by decide)
    · rw [z] at f3; exact absurd f3 (by decide)
  | succ d ih =>
    intro u bo de dn hu h1 hst hF
    rw [wL_law_1027]
    refine br_f (nI_nlt (by omega) (by omega)) (nm_e ?_)
    by_cases bu : pb_g be u = true
    · obtain ⟨t, lt, eS⟩ := (iB u (by omega)).mp bu
      have tb : ∀ x : Int64, (x &&& ((1 : Int64) <<< ((nI u).toInt64 &&& 63))) = 0 ↔ pb_g x u = false := fun x => pb_tst x (by omega)
      have tf : ∀ {x : Int64}, pb_g x u = true → ¬ (x &&& ((1 : Int64) <<< ((nI u).toInt64 &&& 63))) = 0 := fun h z => by
        rw [tb, h] at z
        exact absurd z (by decide)
      have nxt : ∀ bo' de' dn', (∀ i, i < 64 → i ≠ u → pb_g bo' i = pb_g bo i ∧ pb_g de' i = pb_g de i ∧ pb_g dn' i = pb_g dn i) → lw_kp S yf bo' de' dn' t → wL_law_1027 post L xs0 J98 J197 (nI nc) (nI nr) w0 w1 w2 w3 o0 o1 o2 o3 cu rm be st (nI ck) kk aa bb op cc dd r0 re an jj rr pa pr kd (nI s) kc ks (nI nc) (nI nr) (nI nl) (nI nt) (nI ck) (nI bg) ph xs xp xq xg xv xf xl xc xh xw xz (d + 1) bo' de' dn' (nI u + 1) := by
        intro bo' de' dn' hq hkt
        rw [nI_1]
        refine ih (u + 1) bo' de' dn' (by omega) (by omega) (fun t' lt' => ?_) (fun i l1 l2 => ?_)
        · by_cases e : t' = t
          · rw [e]; exact Or.inl hkt
          · have ne : S t' ≠ u := by rw [← eS]; exact pl_Sj hTI lt' lt e
            have l := (hTS t' lt').2.2
            obtain ⟨q1, q2, q3⟩ := hq (S t') (by omega) ne
            rcases hst t' lt' with y | ⟨y1, y2⟩
            · exact Or.inl (lw_kp_c q1 q2 q3 y)
            · exact Or.inr ⟨by omega, lw_sta_c q1 q2 q3 y2⟩
        · obtain ⟨q1, q2, q3⟩ := hq i l2 (by omega)
          obtain ⟨z1, z2, z3⟩ := hF i l1 l2
          exact ⟨by rw [q1]; exact z1, by rw [q2]; exact z2, by rw [q3]; exact z3⟩
      have same : lw_kp S yf bo de dn t → wL_law_1027 post L xs0 J98 J197 (nI nc) (nI nr) w0 w1 w2 w3 o0 o1 o2 o3 cu rm be st (nI ck) kk aa bb op cc dd r0 re an jj rr pa pr kd (nI s) kc ks (nI nc) (nI nr) (nI nl) (nI nt) (nI ck) (nI bg) ph xs xp xq xg xv xf xl xc xh xw xz (d + 1) bo de dn (nI u + 1) := nxt bo de dn (fun _ _ _ => ⟨rfl, rfl, rfl⟩)
      have hset : ∀ (x : Int64) i, i < 64 → i ≠ u → pb_g (x ||| ((1 : Int64) <<< ((nI u).toInt64 &&& 63))) i = pb_g x i := fun x i l ne => by
        rw [pb_set x (by omega) l]
        simp [ne]
      have hsetu : ∀ (x : Int64), pb_g (x ||| ((1 : Int64) <<< ((nI u).toInt64 &&& 63))) u = true := fun x => by
        rw [pb_set x (by omega) (by omega)]
        simp
      have sta : lw_sta nr S P yf yg bo de dn rm kd an s rr pr pa t := (hst t lt).elim Or.inl (fun y => y.2)
      refine br_f (tf bu) ?_
      rw [← eS]
      refine px_fate H lt (fun f3 => ?_) (fun f2 => ?_) (fun f3 f2 => ?_)
      · -- committed
        have p1 := hTP t lt
        have p0 := hT3 t lt f3
        refine br_f (nI_nlt (b := 1) (by omega) (by omega)) (br_f (nI_nlt (by omega) (by omega)) ?_)
        rw [lw_p1 (by omega), lw_s3 (by omega), lw_a7 (by omega)]
        refine lw_sel (by omega) (lw_at (by omega) ?_)
        have eo : pb_f (lw_W o0 o1 o2 o3 ((P t - 1) / 8)) (8 * ((P t - 1) % 8)) 8 = S t := iOO.1 t lt p0
        rw [eo]
        refine br_t rfl ?_
        rw [eS]
        unfold wL_law_1112
        have n0 : ¬ nI (P t) = 0 := nI_ne0 (by omega) (by omega)
        have n1 : ¬ nI (P t) = -1 := pl_ne1 (by omega)
        rcases sta with k | ⟨y, _⟩ | ⟨y, _⟩ | ⟨_, ⟨b1, b2, b3⟩, e4, e0, eSs, er, ep, hr⟩
        · have b3 : pb_g dn u = true := by
            rcases k with ⟨y, _⟩ | ⟨y, _⟩ | ⟨_, y⟩ | ⟨y, _⟩
            · rw [y] at f3; exact absurd f3 (by decide)
            · rw [y] at f3; exact absurd f3 (by decide)
            · rw [← eS]; exact y.2.2
            · rw [y] at f3; exact absurd f3 (by decide)
          exact br_f (tf b3) (br_f (by decide) (nm_e (same k)))
        · rw [y] at f3; exact absurd f3 (by decide)
        · rw [y] at f3; exact absurd f3 (by decide)
        · rw [eS] at b1 b2 b3
          refine br_t ((tb _).mpr b3) (br_t ((tb _).mpr b2) (br_f (tf b1) (br_f n1 (br_f n0 (br_f (by decide) (br_t e4 (br_t e0 (br_t (by rw [← eSs, eS]) (br_t er (br_t ep (nm_e ⟨nr + 1, ?_⟩)))))))))))
          have k0 := lw_1309 (L := L) (post := post) (xs0 := xs0) (J98 := J98) (J197 := J197) (w0 := w0) (w1 := w1) (w2 := w2) (w3 := w3) (o0 := o0) (o1 := o1) (o2 := o2) (o3 := o3) (cu := cu) (be := be) (st := st) (nc := nc) (nl := nl) (nt := nt) (ck := ck) (bg := bg) (ph := ph) (xs := xs) (xp := xp) (xq := xq) (xg := xg) (xv := xv) (xf := xf) (xl := xl) (xc := xc) (xh := xh) (xw := xw) (xz := xz) (kk := kk) (aa := aa) (bb := bb) (op := op) (cc := cc) (dd := dd) (r0 := r0) (re := re) (an := an) (jj := jj) (rr := rr) (pa := pa) (pr := pr) (kd := kd) (s := s) (kc := kc) (ks := ks) (bo := bo) (de := de) (dn := dn ||| ((1 : Int64) <<< ((nI u).toInt64 &&& 63))) (u := u) (t := t) (P := P) (yg := yg) (rm := rm) i2 h1 (by omega) (by omega) (fun i li => by rw [← eS]; exact (iWW.1 i t li lt).1) hr (nxt bo de _ (fun i li ne => ⟨rfl, rfl, hset dn i li ne⟩) (Or.inr (Or.inr (Or.inl ⟨f3, by rw [eS]; exact b1, by rw [eS]; exact b2, by rw [eS]; exact hsetu dn⟩)))) nr 0 (by omega)
          rw [nI_0] at k0
          exact k0
      · -- pending
        refine br_t (by decide) ?_
        rw [eS]
        unfold wL_law_1111 wL_law_1112
        rcases sta with k | ⟨_, ⟨b1, b2, b3⟩, e2, e0, eSs⟩ | ⟨y, _⟩ | ⟨y, _⟩
        · have b : pb_g bo u = true ∧ pb_g de u = false ∧ pb_g dn u = false := by
            rcases k with ⟨y, _⟩ | ⟨_, y⟩ | ⟨y, _⟩ | ⟨y, _⟩
            · rw [y] at f2; exact absurd f2 (by decide)
            · rw [← eS]; exact y
            · rw [y] at f2; exact absurd f2 (by decide)
            · rw [y] at f2; exact absurd f2 (by decide)
          exact br_t ((tb _).mpr b.2.2) (br_t ((tb _).mpr b.2.1) (br_f (tf b.1) (br_f (by decide) (br_t rfl (nm_e (same k))))))
        · rw [eS] at b1 b2 b3
          refine br_t ((tb _).mpr b3) (br_t ((tb _).mpr b2) (br_t ((tb _).mpr b1) (br_t rfl (br_t e2 (br_t e0 (br_t (by rw [← eSs, eS]) (nm_e (nm_e ?_))))))))
          exact nxt _ de dn (fun i li ne => ⟨hset bo i li ne, rfl, rfl⟩) (Or.inr (Or.inl ⟨f2, by rw [eS]; exact hsetu bo, by rw [eS]; exact b2, by rw [eS]; exact b3⟩))
        · rw [y] at f2; exact absurd f2 (by decide)
        · rw [y] at f2; exact absurd f2 (by decide)
      · -- not born yet, or rolled back
        refine br_t (by decide) ?_
        rw [eS]
        unfold wL_law_1111 wL_law_1112
        rcases sta with k | ⟨y, _⟩ | ⟨f4, ⟨b1, b2, b3⟩, hd⟩ | ⟨y, _⟩
        · rcases k with ⟨y1, y⟩ | ⟨y, _⟩ | ⟨y, _⟩ | ⟨y4, y⟩
          · have k := same (Or.inl ⟨y1, y⟩)
            obtain ⟨b1, b2, b3⟩ := y
            rw [eS] at b1 b2 b3
            exact br_t ((tb _).mpr b3) (br_t ((tb _).mpr b2) (br_t ((tb _).mpr b1) (br_f (by decide) (br_t rfl (nm_e k)))))
          · exact absurd y f2
          · exact absurd y f3
          · have k := same (Or.inr (Or.inr (Or.inr ⟨y4, y⟩)))
            obtain ⟨b1, b2, b3⟩ := y
            rw [eS] at b1 b2 b3
            exact br_t ((tb _).mpr b3) (br_f (tf b2) (br_t rfl (nm_e k)))
        · exact absurd y f2
        · rw [eS] at b1 b2 b3 hd
          have k := nxt bo (de ||| ((1 : Int64) <<< ((nI u).toInt64 &&& 63))) dn (fun i li ne => ⟨rfl, hset de i li ne, rfl⟩) (Or.inr (Or.inr (Or.inr ⟨f4, by rw [eS]; exact b1, by rw [eS]; exact hsetu de, by rw [eS]; exact b3⟩)))
          refine br_t ((tb _).mpr b3) (br_t ((tb _).mpr b2) (br_f (tf b1) (br_t rfl ?_)))
          rcases hd with ⟨e9, es⟩ | ⟨e25, es⟩
          · exact br_t e9 (br_t (by rw [es]) (nm_e (nm_e k)))
          · have ne : ¬ nI u = nI s := fun y => es (pl_im y (by omega) (by omega))
            unfold wL_law_1237
            rcases e25 with e2 | e5
            · exact br_f (by rw [e2]; decide) (br_t e2 (br_f ne (nm_e (nm_e k))))
            · exact br_f (by rw [e5]; decide) (br_f (by rw [e5]; decide) (br_t e5 (br_f ne (nm_e (nm_e k)))))
        · exact absurd y f3
    · have bf : pb_g be u = false := by
        cases h : pb_g be u with
        | true => exact absurd h bu
        | false => rfl
      refine br_t ((pb_tst be (by omega)).mpr bf) (nm_r (nI_1 u) ?_)
      refine ih (u + 1) bo de dn (by omega) (by omega) (fun t lt => ?_) hF
      rcases hst t lt with y | ⟨y1, y2⟩
      · exact Or.inl y
      · have ne : S t ≠ u := fun e => bu ((iB u (by omega)).mpr ⟨t, lt, e⟩)
        exact Or.inr ⟨by omega, y2⟩
end LWC
