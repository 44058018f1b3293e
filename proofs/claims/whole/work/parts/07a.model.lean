/-- a jump's number in the reference's way -/
def jm (q : Nat) : Nat := q % 24 + 32 * (q / 24)
theorem jm_inj {a b : Nat} (h : jm a = jm b) : a = b := by unfold jm at h; omega
/-- the reference's lasting state is m's -/
def Mr (m y : Sg) : Prop :=
  (y.1 0 = m.1 0 ∧ y.1 1 = m.1 1 ∧ y.1 2 = m.1 11 ∧ y.1 3 = m.1 2 ∧ y.1 4 = m.1 5) ∧
  ((m.1 3 = -1 ∧ y.1 5 = -10000 ∧ y.1 6 = -10000) ∨ (0 ≤ (m.1 3).toInt ∧ y.1 5 = m.1 3 ∧ y.1 6 = m.1 4)) ∧
  (∀ i, i < 7 → y.2 1 i = m.2 1 i) ∧ (∀ i, i < 24 → y.2 3 i = m.2 18 i) ∧ (∀ i, i < 24 → y.2 4 i = m.2 19 i) ∧ (∀ i, i < 5 → y.2 5 i = m.2 6 i) ∧
  (∀ k, k < nE m → y.2 6 k = m.2 3 k ∧ (∀ q, q < 48 → m.2 4 k = nI q → y.2 7 k = nI (jm q)) ∧ ∀ i, i < 5 → y.2 8 (5 * k + i) = vl m k i) ∧
  (∀ i, i < nT m → y.2 0 i &&& 255 = m.2 0 i)
section MOD
variable {m y : Sg} {n : Nat}
theorem Mr.tR (h : Mr m y) (k : Nat) (f : Nat → Int32) (hk : k = 2 ∨ 9 ≤ k := by decide) : Mr m (sR y k f) := by
  have e : ∀ j, ¬ j = k → (sR y k f).2 j = y.2 j := fun j hj => sR_ne _ _ _ _ hj
  refine ⟨h.1, h.2.1, ?_, ?_, ?_, ?_, ?_, ?_⟩
  · rw [e 1 (by omega)]; exact h.2.2.1
  · rw [e 3 (by omega)]; exact h.2.2.2.1
  · rw [e 4 (by omega)]; exact h.2.2.2.2.1
  · rw [e 5 (by omega)]; exact h.2.2.2.2.2.1
  · rw [e 6 (by omega), e 7 (by omega), e 8 (by omega)]; exact h.2.2.2.2.2.2.1
  · rw [e 0 (by omega)]; exact h.2.2.2.2.2.2.2
theorem Mr.tA (h : Mr m y) (k : Nat) (i v : Int32) (hk : k = 2 ∨ 9 ≤ k := by decide) : Mr m (sA y k i v) := h.tR k _ hk
theorem Mr.J (hI : iv m) (h : Mr m y) : (y.1 1).toInt = (nJ m : Int) := by rw [h.1.2.1]; exact iv_J hI (Cr.rf m)
theorem Mr.E (hI : iv m) (h : Mr m y) : (y.1 2).toInt = (nE m : Int) := by rw [h.1.2.2.1]; exact iv_E hI (Cr.rf m)
theorem Mr.val (hI : iv m) (h : Mr m y) {k i : Nat} (hk : k < nE m) (hi : i < 5) : vp_in (5 * nI k + nI i) 1000 ∧ gA y 8 (5 * nI k + nI i) = vl m k i := by
  have hE := hI.2.2.1.2
  have e : 5 * nI k + nI i = nI (5 * k + i) := by rw [show (5 : Int32) = nI 5 from rfl, pk_mul, nI_add]
  have e2 := q_nI (n := 5 * k + i) (by omega)
  rw [e]
  exact ⟨q_in e2 (by omega), by unfold gA; rw [q_cl e2]; exact (h.2.2.2.2.2.2.1 k hk).2.2 i hi⟩
theorem Mr.val0 (hI : iv m) (h : Mr m y) {k : Nat} (hk : k < nE m) : vp_in (5 * nI k) 1000 ∧ gA y 8 (5 * nI k) = vl m k 0 := by
  have := h.val hI hk (show 0 < 5 by omega)
  rw [nI_0, Int32.add_zero] at this
  exact this
theorem lst_E {s q k : Nat} (hn : n ≤ nE m) (h : lst m s q n = some k) : k < nE m := Nat.lt_of_lt_of_le (lst_lt h) hn
theorem g_lastOf {post : Int32 → Sg → Prop} (hI : iv m) (hM : Mr m y) (hn : n ≤ nE m) (s q : Nat) (hs : s < 4) (hq : q < 48) (h : post (enc (lst m s q n)) y) : pX5_lastOf (nI n) (nI s) (nI (jm q)) y post := by
  have hE := hI.2.2.1.2
  unfold pX5_lastOf
  intro v hv
  subst hv
  unfold pX5_lastOf_l5
  refine lp_intro (fun (a : Int32 × Int32 × Int32) (w : Sg) => w = y ∧ a.1 = nI s ∧ a.2.1 = nI (jm q) ∧ ∃ k : Nat, k ≤ n ∧ a.2.2 = nI k - 1 ∧ lst m s q n = lst m s q k) (fun a _ => (a.2.2 + 1).toNatClampNeg) ?_ _ _ ⟨rfl, rfl, rfl, n, Nat.le_refl _, rfl, rfl⟩
  rintro K ⟨a, b, c⟩ w ⟨rfl, ha, hb, k, hk, hc, hl⟩ ih
  simp only at ha hb hc ih ⊢
  subst ha hb hc
  unfold pX5_lastOf_b5 pX5_lastOf_b38 pX5_lastOf_b32
  cases k with
  | zero =>
    have e : nI 0 - 1 = -1 := by decide
    rw [e]
    rw [hl] at h
    exact ⟨fun _ => h, fun c => absurd (show (-1 : Int32) < 0 by decide) c⟩
  | succ k =>
    rw [nI_pred]
    have e := q_nI (n := k) (by omega)
    have hkE : k < nE m := by omega
    obtain ⟨e6, e7, -⟩ := hM.2.2.2.2.2.2.1 k hkE
    obtain ⟨s', q', hs', hq', -, f3, f4, -⟩ := hI.2.2.2.2.2.2.1 k hkE
    have g6 : gA w 6 (nI k) = m.2 3 k := by unfold gA; rw [q_cl e]; exact e6
    have g7 : gA w 7 (nI k) = nI (jm q') := by unfold gA; rw [q_cl e]; exact e7 q' hq' f4
    have jb : jm q < 2147483648 ∧ jm q' < 2147483648 := by unfold jm; omega
    have nx : lst m s q (k + 1) = lst m s q k → K (nI s, nI (jm q), nI k + (-1)) w := fun hh => by
      refine ih _ _ ⟨rfl, rfl, rfl, k, by omega, by rw [Int32.sub_eq_add_neg], hl.trans hh⟩ ?_
      have e9 : nI (k + 1) - 1 + 1 = nI (k + 1) := by rw [nI_pred, nI_1]
      have e8 : nI k + (-1) + 1 = nI k := by rw [Int32.add_assoc]; simp
      have h9 := q_nI (n := k + 1) (by omega)
      simp only [e9, e8, q_cl e, q_cl h9]
      omega
    refine ⟨fun c => absurd c (nI_pos (by omega)), fun _ => ⟨q_in e (by omega), fun c => nx ?_, fun c => ⟨q_in e (by omega), fun d => ?_, fun d => nx ?_⟩⟩⟩
    · rw [g6] at c
      exact if_neg (fun q => c q.1)
    · rw [g6] at c
      rw [g7] at d
      have : q' = q := jm_inj ((nI_eq jb.2 jb.1).mp d)
      subst this
      rw [hl, show lst m s q' (k + 1) = some k from if_pos ⟨c, f4⟩] at h
      exact h
    · rw [g7] at d
      refine if_neg (fun z => d ?_)
      have h4 : nI q' = nI q := f4.symm.trans z.2
      rw [(nI_eq (by omega) (by omega)).mp h4]
theorem g_isStruck {post : Int32 → Sg → Prop} (hI : iv m) (hM : Mr m y) (hn : n ≤ nE m) (q : Nat) (hq : q < 48) (h : post (b2 (stk m q n)) y) : pX5_isStruck (nI n) (nI (jm q)) y post := by
  unfold pX5_isStruck pX5_isStruck_b28 pX5_isStruck_b29
  refine g_lastOf hI hM hn 3 q (by omega) hq ?_
  unfold stk at h
  cases hl : lst m 3 q n with
  | none =>
    rw [hl] at h
    exact ⟨fun _ => ⟨Or.inl rfl, h⟩, fun c => absurd (show enc none < 0 by decide) c⟩
  | some k =>
    rw [hl] at h
    have hk := lst_E hn hl
    have hE := hI.2.2.1.2
    obtain ⟨h1, h2⟩ := hM.val0 hI hk
    rw [show enc (some k) = nI k from rfl, h2]
    refine ⟨fun c => absurd c (nI_pos (by omega)), fun _ => ⟨h1, fun c => ⟨Or.inl rfl, ?_⟩, fun c => ⟨Or.inr rfl, ?_⟩⟩⟩
    · simp only [c, decide_false, b2_f] at h; exact h
    · simp only [c, decide_true, b2_t] at h; exact h
theorem g_has {post : Int32 → Sg → Prop} (hI : iv m) (hM : Mr m y) (hn : n ≤ nE m) (q : Nat) (hq : q < 48) (h : post (b2 (hs m q n)) y) : pX5_has (nI n) (nI (jm q)) y post := by
  unfold pX5_has pX5_has_b23 pX5_has_b24
  refine g_lastOf hI hM hn 0 q (by omega) hq ?_
  unfold hs at h
  cases hl : lst m 0 q n with
  | none =>
    rw [hl] at h
    exact ⟨fun _ => ⟨Or.inl rfl, h⟩, fun c => absurd (show enc none < 0 by decide) c⟩
  | some k =>
    rw [hl] at h
    have hk := kn_k hI hn hl
    refine ⟨fun c => absurd c (enc_nneg hk), fun _ => g_isStruck hI hM hn q hq ?_⟩
    cases hb : stk m q n with
    | true =>
      rw [hb] at h
      exact ⟨fun _ => ⟨Or.inl rfl, h⟩, fun c => absurd c (by decide)⟩
    | false =>
      rw [hb] at h
      exact ⟨fun c => absurd rfl c, fun _ => ⟨Or.inr rfl, h⟩⟩
theorem iabs_p {a : Int32} (h : 0 ≤ a) : iabs a = a := if_pos h
theorem iabs_n {a : Int32} (h : ¬ 0 ≤ a) : iabs a = -a := by unfold iabs; rw [if_neg h, Int32.zero_sub]
theorem g_nearest {post : Int32 → Sg → Prop} (a b : Int32) (h0 : 0 < b.toInt) (hb : b.toInt ≤ 1000) (h : post (rnd a b) y) : pX5_nearest a b y post := by
  have hpos : 0 < b := by rw [q_lt]; exact h0
  have ne : ¬ 2 * b = 0 := fun d => by
    obtain ⟨k, rfl, hk⟩ := q_nn (x := b) (by omega)
    rw [show (2 : Int32) = nI 2 from rfl, pk_mul, show (0 : Int32) = nI 0 from rfl, nI_eq (by omega) (by omega)] at d
    omega
  unfold pX5_nearest pX5_nearest_b10 pX5_nearest_b31
  unfold rnd at h
  rw [if_pos hpos] at h
  refine ⟨fun c => ⟨ne, fun v hv => ⟨fun _ => ?_, fun d => absurd c d⟩⟩, fun c => ⟨ne, fun v hv => ⟨fun d => absurd d c, fun _ => ?_⟩⟩⟩
  · rw [if_pos c, iabs_p c] at h; rw [hv]; exact h
  · rw [if_neg c, iabs_n c] at h; rw [hv]; exact h
theorem g_mean {post : Int32 → Sg → Prop} (hI : iv m) (hM : Mr m y) (hn : n ≤ nE m) (q : Nat) (hq : q < 48) (h : post (mea m (lst m 1 q n)) y) : pX5_mean (nI n) (nI (jm q)) y post := by
  have hE := hI.2.2.1.2
  have hw := hI.2.2.2.2.2.1
  unfold pX5_mean
  refine g_lastOf hI hM hn 1 q (by omega) hq ?_
  unfold pX5_mean_l17
  cases hl : lst m 1 q n with
  | none =>
    rw [hl] at h
    refine lp_intro (fun (a : Int32 × Int32 × Int32 × Int32) (w : Sg) => w = y ∧ a = (enc none, 0, 0, 0)) (fun a _ => 0) ?_ _ _ ⟨rfl, rfl⟩
    rintro K a w ⟨rfl, rfl⟩ ih
    unfold pX5_mean_b17 pX5_mean_b89 pX5_mean_b105
    exact ⟨fun c => absurd c (by decide), fun _ => ⟨fun _ => ⟨fun c => absurd rfl c, fun _ => h⟩, fun c => absurd (show enc none < 0 by decide) c⟩⟩
  | some k =>
    rw [hl] at h
    have hk := lst_E hn hl
    refine lp_intro (fun (a : Int32 × Int32 × Int32 × Int32) (u : Sg) => u = y ∧ a.1 = nI k ∧ ∃ i : Nat, i ≤ 5 ∧ a.2.2.2 = nI i ∧ a.2.1 = msum (m.2 6) (vl m k) i ∧ a.2.2.1 = mwt (m.2 6) (vl m k) i) (fun a _ => 5 - a.2.2.2.toNatClampNeg) ?_ _ _ ⟨rfl, rfl, 0, by omega, rfl, rfl, rfl⟩
    rintro K ⟨a, b, c, d⟩ u ⟨rfl, ha, i, hi, hd, hb, hc⟩ ih
    simp only at ha hb hc hd ih ⊢
    subst ha hb hc hd
    have e := q_nI (n := i) (by omega)
    have e1 := q_nI (n := i + 1) (by omega)
    unfold pX5_mean_b17 pX5_mean_b83 pX5_mean_b89 pX5_mean_b105
    refine ⟨fun c => ?_, fun c => ⟨fun d => absurd d (nI_pos (by omega)), fun _ => ?_⟩⟩
    · simp only [q_le, e, Int32.reduceToInt] at c
      have : i = 5 := by omega
      subst this
      obtain ⟨t, ht, ht2⟩ := mwt_bd (f := vl m k) hw 5 (by omega)
      have et := q_nI (n := t) (by omega)
      have h : post (rnd (msum (m.2 6) (vl m k) 5) (mwt (m.2 6) (vl m k) 5)) u := h
      refine ⟨fun d => g_nearest _ _ ?_ ?_ h, fun d => ?_⟩
      · rw [ht, et]
        rw [ht, show (0 : Int32) = nI 0 from rfl, nI_eq (by omega) (by omega)] at d
        omega
      · rw [ht, et]; omega
      · unfold rnd at h
        rw [d, if_neg (by decide)] at h
        exact h
    · simp only [q_le, e, Int32.reduceToInt] at c
      obtain ⟨h1, h2⟩ := hM.val hI hk (show i < 5 by omega)
      have g5 : gA u 5 (nI i) = m.2 6 i := by unfold gA; rw [q_cl e, hM.2.2.2.2.2.1 i (by omega)]
      rw [h2, g5]
      refine ⟨h1, fun d => ⟨q_in e (by omega), h1, fun v hv => ⟨q_in e (by omega), fun v2 hv2 => ?_⟩⟩, fun d => ?_⟩
      · refine ih _ _ ⟨rfl, rfl, i + 1, by omega, nI_1 i, ?_, ?_⟩ (by simp only [nI_1, q_cl e, q_cl e1]; omega)
        · simp only [msum, if_neg d]; exact hv
        · simp only [mwt, if_neg d]; exact hv2
      · refine ih _ _ ⟨rfl, rfl, i + 1, by omega, nI_1 i, ?_, ?_⟩ (by simp only [nI_1, q_cl e, q_cl e1]; omega)
        · simp only [msum, if_pos d]
        · simp only [mwt, if_pos d]
theorem g_style {post : Int32 → Sg → Prop} (hI : iv m) (hM : Mr m y) (hn : n ≤ nE m) (q : Nat) (hq : q < 48) (h : post (sty m (lst m 2 q n)) y) : pX5_style_ (nI n) (nI (jm q)) y post := by
  have hE := hI.2.2.1.2
  unfold pX5_style_
  refine g_lastOf hI hM hn 2 q (by omega) hq ?_
  cases hl : lst m 2 q n with
  | none =>
    rw [hl] at h
    exact ⟨fun c => absurd c (by decide), fun _ => h⟩
  | some k =>
    rw [hl] at h
    have hk := lst_E hn hl
    refine ⟨fun _ => ?_, fun c => absurd (nI_pos' (by omega)) c⟩
    unfold pX5_style__l27
    refine lp_intro (fun (a : Int32 × Int32 × Int32 × Int32 × Int32) (u : Sg) => u = y ∧ a.1 = nI k ∧ ∃ i : Nat, i ≤ 5 ∧ a.2.2.2.2 = nI i ∧ a.2.1 = fsum (vl m k) i ∧ a.2.2.1 = fmn (vl m k) i ∧ a.2.2.2.1 = fmx (vl m k) i) (fun a _ => 5 - a.2.2.2.2.toNatClampNeg) ?_ _ _ ⟨rfl, rfl, 0, by omega, rfl, rfl, rfl, rfl⟩
    rintro K ⟨a, b, c, d, g⟩ u ⟨rfl, ha, i, hi, hg, hb, hc, hd⟩ ih
    simp only at ha hb hc hd hg ih ⊢
    subst ha hb hc hd hg
    have e := q_nI (n := i) (by omega)
    have e1 := q_nI (n := i + 1) (by omega)
    unfold pX5_style__b27
    refine ⟨fun c => ?_, fun c => ?_⟩
    · simp only [q_le, e, Int32.reduceToInt] at c
      have : i = 5 := by omega
      subst this
      exact h
    · simp only [q_le, e, Int32.reduceToInt] at c
      obtain ⟨h1, h2⟩ := hM.val hI hk (show i < 5 by omega)
      rw [h2]
      refine ⟨h1, fun v hv v4 hv4 => ?_⟩
      subst hv
      have key : ∀ lo : Int32, lo = fmn (vl m k) (i + 1) → pX5_style__b67 (fun (x3 x4 x5 x6 x7 : Int32) z => K (x3, x4, x5, x6, x7) z) post (nI k) v4 (fmx (vl m k) i) (nI i) (vl m k i) lo u := fun lo hlo => by
        unfold pX5_style__b67 pX5_style__b83
        have fin : ∀ hi' : Int32, hi' = fmx (vl m k) (i + 1) → K (nI k, v4, lo, hi', nI i + 1) u := fun hi' hh =>
          ih _ _ ⟨rfl, rfl, i + 1, by omega, nI_1 i, by simp only [fsum]; exact hv4, hlo, hh⟩ (by simp only [nI_1, q_cl e, q_cl e1]; omega)
        refine ⟨fun c => fin _ ?_, fun c => fin _ ?_⟩
        · simp only [fmx, imax, if_neg (Int32.not_lt.mpr c)]
        · simp only [fmx, imax, if_pos (Int32.not_le.mp c)]
      refine ⟨fun c => key _ ?_, fun c => key _ ?_⟩
      · simp only [fmn, imin, if_neg (Int32.not_lt.mpr c)]
      · simp only [fmn, imin, if_pos (Int32.not_le.mp c)]
/-- the w-th part of a jump's points -/
def prt (m : Sg) (q n k w : Nat) : Int32 := if w = 1 then len m k else if w = 2 then sty m (lst m 2 q n) else if w = 3 then gat m k else win m q n
theorem Mr.ru (hM : Mr m y) {i : Nat} (hi : i < 7) : vp_in (nI i) 7 ∧ gA y 1 (nI i) = m.2 1 i := by
  have e := q_nI (n := i) (by omega)
  exact ⟨q_in e hi, by unfold gA; rw [q_cl e]; exact hM.2.2.1 i hi⟩
theorem g_part {post : Int32 → Sg → Prop} (hI : iv m) (hM : Mr m y) (hn : n ≤ nE m) (q : Nat) (hq : q < 48) {k : Nat} (hl : lst m 0 q n = some k) (w : Nat) (hw : 1 ≤ w ∧ w ≤ 4) (h : post (prt m q n k w) y) : pX5_part (nI n) (nI (jm q)) (nI w) y post := by
  have hE := hI.2.2.1.2
  have hk := lst_E hn hl
  have ew := q_nI (n := w) (by omega)
  unfold pX5_part
  refine g_lastOf hI hM hn 0 q (by omega) hq ?_
  rw [hl]
  intro v hv
  rw [show enc (some k) = nI k from rfl] at hv
  subst hv
  obtain ⟨a0, b0⟩ := hM.val0 hI hk
  obtain ⟨a1, b1⟩ := hM.val hI hk (show 1 < 5 by omega)
  obtain ⟨a2, b2'⟩ := hM.val hI hk (show 2 < 5 by omega)
  rw [show nI 1 = (1 : Int32) from rfl] at a1 b1
  rw [show nI 2 = (2 : Int32) from rfl] at a2 b2'
  have r0 : vp_in 0 7 ∧ gA y 1 0 = m.2 1 0 := hM.ru (show 0 < 7 by omega)
  have r1 : vp_in 1 7 ∧ gA y 1 1 = m.2 1 1 := hM.ru (show 1 < 7 by omega)
  have r2 : vp_in 2 7 ∧ gA y 1 2 = m.2 1 2 := hM.ru (show 2 < 7 by omega)
  have r3 : vp_in 3 7 ∧ gA y 1 3 = m.2 1 3 := hM.ru (show 3 < 7 by omega)
  have r4 : vp_in 4 7 ∧ gA y 1 4 = m.2 1 4 := hM.ru (show 4 < 7 by omega)
  refine ⟨fun c => ⟨r1.1, a0, r0.1, ?_⟩, fun d1 => ⟨fun c => g_style hI hM hn q hq ?_, fun d2 => ⟨fun c => ⟨a2, ?_⟩, fun d3 => g_mean hI hM hn q hq ⟨?_, ?_⟩⟩⟩⟩
  · rw [r1.2, b0, r0.2]
    simp only [q_eq, ew, Int32.reduceToInt] at c
    have : w = 1 := by omega
    subst this
    exact h
  · simp only [q_eq, ew, Int32.reduceToInt] at c
    have : w = 2 := by omega
    subst this
    exact h
  · simp only [q_eq, ew, Int32.reduceToInt] at c
    have : w = 3 := by omega
    subst this
    have h : post (gat m k) y := h
    unfold pX5_part_b116 pX5_part_b139
    rw [b2', b0, b1, r0.2, r3.2, r4.2, hM.1.2.2.2.2]
    unfold gat at h
    refine ⟨fun c2 => ⟨r3.1, a1, ?_⟩, fun c2 => ⟨a0, r4.1, r0.1, fun c3 => ⟨r3.1, a1, ?_⟩, fun c3 => ?_⟩⟩
    · rw [if_neg (fun q => c2 q.1)] at h; exact h
    · rw [if_neg (fun q => Int32.not_lt.mpr c3 q.2)] at h; exact h
    · rw [if_pos ⟨c2, Int32.not_le.mp c3⟩] at h; exact h
  · exact r2.1
  · rw [r2.2]
    simp only [q_eq, ew, Int32.reduceToInt] at d1 d2 d3
    have : w = 4 := by omega
    subst this
    exact g_nearest _ _ (by decide) (by decide) h
def psum (m : Sg) (q n k l : Nat) : Nat → Int32
  | 0 => 0
  | i + 1 => psum m q n k l i + (if i + 1 = l then 0 else prt m q n k (i + 1))
theorem g_without {post : Int32 → Sg → Prop} (hI : iv m) (hM : Mr m y) (hn : n ≤ nE m) (q : Nat) (hq : q < 48) {k : Nat} (hl : lst m 0 q n = some k) (l : Nat) (hl4 : l ≤ 4) (h : post (imax 0 (psum m q n k l 4)) y) : pX5_without (nI n) (nI (jm q)) (nI l) y post := by
  have el := q_nI (n := l) (by omega)
  unfold pX5_without pX5_without_l6
  refine lp_intro (fun (a : Int32 × Int32 × Int32 × Int32 × Int32) (u : Sg) => u = y ∧ a.1 = nI n ∧ a.2.1 = nI (jm q) ∧ a.2.2.1 = nI l ∧ ∃ i : Nat, i ≤ 4 ∧ a.2.2.2.2 = nI (i + 1) ∧ a.2.2.2.1 = psum m q n k l i) (fun a _ => 5 - a.2.2.2.2.toNatClampNeg) ?_ _ _ ⟨rfl, rfl, rfl, rfl, 0, by omega, rfl, rfl⟩
  rintro K ⟨a, b, c, d, g⟩ u ⟨rfl, ha, hb, hc, i, hi, hg, hd⟩ ih
  simp only at ha hb hc hd hg ih ⊢
  subst ha hb hc hd hg
  have e := q_nI (n := i + 1) (by omega)
  have e1 := q_nI (n := i + 1 + 1) (by omega)
  unfold pX5_without_b6 pX5_without_b32 pX5_without_b52
  refine ⟨fun c => ?_, fun c => ?_⟩
  · simp only [q_le, e, Int32.reduceToInt] at c
    have : i = 4 := by omega
    subst this
    unfold imax at h
    refine ⟨fun d => ?_, fun d => ?_⟩
    · by_cases hz : 0 < psum m q n k l 4
      · rw [if_pos hz] at h; exact h
      · rw [if_neg hz] at h
        have : psum m q n k l 4 = 0 := by
          simp only [q_lt, q_le, q_eq, Int32.reduceToInt] at hz d ⊢
          omega
        rw [this]; exact h
    · rw [if_neg (fun hz => d (Int32.le_of_lt hz))] at h; exact h
  · simp only [q_le, e, Int32.reduceToInt] at c
    have nx : ∀ v : Int32, v = psum m q n k l (i + 1) → K (nI n, nI (jm q), nI l, v, nI (i + 1) + 1) u := fun v hv =>
      ih _ _ ⟨rfl, rfl, rfl, rfl, i + 1, by omega, nI_1 (i + 1), hv⟩ (by simp only [nI_1, q_cl e, q_cl e1]; omega)
    refine ⟨fun d => g_part hI hM hn q hq hl (i + 1) (by omega) (fun v hv => nx v ?_), fun d v hv => nx v ?_⟩
    · have : ¬ i + 1 = l := fun z => d (by rw [z])
      rw [hv]; simp only [psum, if_neg this]
    · have : i + 1 = l := by simp only [q_eq, e, el] at d; omega
      rw [hv]; simp only [psum, if_pos this]
theorem psum_0 {q k : Nat} : psum m q n k 0 4 = raw m q n k := by
  unfold raw
  simp [psum, prt]
theorem psum_3 {q k : Nat} : psum m q n k 3 4 = raw m q n k - gat m k := by
  unfold raw
  simp [psum, prt]
  grind
theorem psum_4 {q k : Nat} : psum m q n k 4 4 = raw m q n k - win m q n := by
  unfold raw
  simp [psum, prt]
theorem g_all {post : Int32 → Sg → Prop} (hI : iv m) (hM : Mr m y) (hn : n ≤ nE m) (q : Nat) (hq : q < 48) (hh : hs m q n = true) (h : post (pts m q n) y) : pX5_without (nI n) (nI (jm q)) 0 y post := by
  obtain ⟨k, hl⟩ := hs_lst hh
  refine g_without hI hM hn q hq hl 0 (by omega) ?_
  rw [psum_0]
  unfold pts at h
  rw [hl] at h
  exact h
end MOD
