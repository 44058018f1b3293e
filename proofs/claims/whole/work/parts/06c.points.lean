def b2 (b : Bool) : Int32 := if b then 1 else 0
theorem b2_01 (b : Bool) : b2 b = 0 ∨ b2 b = 1 := by cases b <;> simp [b2]
theorem b2_t : b2 true = 1 := rfl
theorem b2_f : b2 false = 0 := rfl
/-- is struck, by the first n entries -/
def stk (m : Sg) (q n : Nat) : Bool := match lst m 3 q n with
  | none => false
  | some k => decide (vl m k 0 = 1)
def hs (m : Sg) (q n : Nat) : Bool := match lst m 0 q n with
  | none => false
  | some _ => !stk m q n
def rnd (a b : Int32) : Int32 := if 0 < b then (if 0 ≤ a then (2 * iabs a + b) / (2 * b) else -((2 * iabs a + b) / (2 * b))) else 0
def msum (w f : Nat → Int32) : Nat → Int32
  | 0 => 0
  | i + 1 => if f i = -10000 then msum w f i else msum w f i + w i * f i
def mwt (w f : Nat → Int32) : Nat → Int32
  | 0 => 0
  | i + 1 => if f i = -10000 then mwt w f i else mwt w f i + w i
def mea (m : Sg) : Option Nat → Int32
  | none => 0
  | some k => rnd (msum (m.2 6) (vl m k) 5) (mwt (m.2 6) (vl m k) 5)
def fsum (f : Nat → Int32) : Nat → Int32
  | 0 => 0
  | i + 1 => fsum f i + f i
def fmn (f : Nat → Int32) : Nat → Int32
  | 0 => 40
  | i + 1 => imin (fmn f i) (f i)
def fmx (f : Nat → Int32) : Nat → Int32
  | 0 => 0
  | i + 1 => imax (fmx f i) (f i)
def sty (m : Sg) : Option Nat → Int32
  | none => 0
  | some k => 10 * ((fsum (vl m k) 5 - fmn (vl m k) 5) - fmx (vl m k) 5)
def gat (m : Sg) (k : Nat) : Int32 := if vl m k 2 = 1 ∧ 100 * vl m k 0 < m.2 1 4 * m.2 1 0 then 0 else (2 * m.2 1 3) * (m.1 5 - vl m k 1)
def len (m : Sg) (k : Nat) : Int32 := 1200 + m.2 1 1 * (vl m k 0 - m.2 1 0)
def win (m : Sg) (q n : Nat) : Int32 := (-2) * rnd (mea m (lst m 1 q n) * m.2 1 2) 100
def raw (m : Sg) (q n k : Nat) : Int32 := ((len m k + sty m (lst m 2 q n)) + gat m k) + win m q n
def pts (m : Sg) (q n : Nat) : Int32 := match lst m 0 q n with
  | none => 0
  | some k => imax 0 (raw m q n k)
/-- what a measured jump leaves behind -/
def mz (m : Sg) (q n k : Nat) (z : Sg) : Sg := sS (sS (sS (sS (sS z 10 (mea m (lst m 1 q n))) 6 (len m k)) 7 (sty m (lst m 2 q n))) 8 (gat m k)) 9 (win m q n)
theorem mwt_bd {w f : Nat → Int32} (h : ∀ i, i < 5 → 0 ≤ (w i).toInt ∧ (w i).toInt ≤ 9) : ∀ i, i ≤ 5 → ∃ t : Nat, mwt w f i = nI t ∧ t ≤ 9 * i
  | 0, _ => ⟨0, rfl, by omega⟩
  | i + 1, hi => by
    obtain ⟨t, h1, h2⟩ := mwt_bd h i (by omega)
    unfold mwt
    split
    · exact ⟨t, h1, by omega⟩
    · obtain ⟨a, h3, h4⟩ := q_nn (h i (by omega)).1
      have := (h i (by omega)).2
      exact ⟨t + a, by rw [h1, h3, nI_add], by omega⟩
section PTS
variable {m z : Sg} {n : Nat}
theorem kn_k {s q k : Nat} (hI : iv m) (hn : n ≤ nE m) (h : lst m s q n = some k) : k < 200 := by
  have := lst_lt h
  have := hI.2.2.1.2
  omega
theorem e_val {post : Int32 → Sg → Prop} (hC : Cr m z) (k i : Nat) (hk : k < 200) (hi : i < 5) (h : post (vl m k i) z) : pX1_value (nI k) (nI i) z post :=
  e_value k i hk hi (by rw [hC.a 5]; exact h)
theorem e_num {post : Int32 → Sg → Prop} (hC : Cr m z) (a : Nat) (ha : a < 7) (h : post (m.2 1 a) z) : pX2_number (nI a) z post :=
  e_number a ha (by rw [hC.a 1]; exact h)
theorem enc_nneg {k : Nat} (hk : k < 200) : ¬ nI k < 0 := nI_pos (by omega)
theorem e_isStruck {post : Int32 → Sg → Prop} (hI : iv m) (hC : Cr m z) (hn : n ≤ nE m) (hK : Kn m n z) (q : Nat) (hq : q < 48) (h : post (b2 (stk m q n)) z) : pX3_isStruck (nI q) z post := by
  unfold pX3_isStruck pX3_isStruck_b28 pX3_isStruck_b29
  refine e_countingOf hK 3 q (by omega) hq ?_
  unfold stk at h
  cases hl : lst m 3 q n with
  | none =>
    rw [hl] at h
    exact ⟨fun _ => ⟨Or.inl rfl, h⟩, fun c => absurd (show enc none < 0 by decide) c⟩
  | some k =>
    rw [hl] at h
    have hk := kn_k hI hn hl
    refine ⟨fun c => absurd c (enc_nneg hk), fun _ => e_val hC k 0 hk (by omega) ⟨fun c => ⟨Or.inl rfl, ?_⟩, fun c => ⟨Or.inr rfl, ?_⟩⟩⟩
    · simp only [c, decide_false, b2_f] at h; exact h
    · simp only [c, decide_true, b2_t] at h; exact h
theorem e_hasPoints {post : Int32 → Sg → Prop} (hI : iv m) (hC : Cr m z) (hn : n ≤ nE m) (hK : Kn m n z) (q : Nat) (hq : q < 48) (h : post (b2 (hs m q n)) z) : pX3_hasPoints (nI q) z post := by
  unfold pX3_hasPoints pX3_hasPoints_b21 pX3_hasPoints_b22
  refine e_countingOf hK 0 q (by omega) hq ?_
  unfold hs at h
  cases hl : lst m 0 q n with
  | none =>
    rw [hl] at h
    exact ⟨fun _ => ⟨Or.inl rfl, h⟩, fun c => absurd (show enc none < 0 by decide) c⟩
  | some k =>
    rw [hl] at h
    have hk := kn_k hI hn hl
    refine ⟨fun c => absurd c (enc_nneg hk), fun _ => e_isStruck hI hC hn hK q hq ?_⟩
    cases hb : stk m q n with
    | true =>
      rw [hb] at h
      exact ⟨fun _ => ⟨Or.inl rfl, h⟩, fun c => absurd c (by decide)⟩
    | false =>
      rw [hb] at h
      exact ⟨fun c => absurd rfl c, fun _ => ⟨Or.inr rfl, h⟩⟩
theorem e_rounded {post : Int32 → Sg → Prop} (a b : Int32) (hb : b.toInt ≤ 1000) (h : post (rnd a b) z) : pX3_rounded a b z post := by
  unfold pX3_rounded pX3_rounded_b29
  unfold rnd at h
  refine ⟨fun c => ⟨fun d => ?_, fun v hv => ⟨fun e => ?_, fun e => ?_⟩⟩, fun c => ?_⟩
  · simp only [q_lt, Int32.reduceToInt] at c
    obtain ⟨k, rfl, hk⟩ := q_nn (x := b) (by omega)
    rw [show (2 : Int32) = nI 2 from rfl, pk_mul, show (0 : Int32) = nI 0 from rfl, nI_eq (by omega) (by omega)] at d
    omega
  · rw [if_pos c, if_pos e] at h; rw [hv]; exact h
  · rw [if_pos c, if_neg e] at h; rw [hv]; exact h
  · rw [if_neg c] at h; exact h
theorem e_meanOf {post : Int32 → Sg → Prop} (hI : iv m) (hC : Cr m z) (o : Option Nat) (ho : ∀ k, o = some k → k < 200) (h : post (mea m o) z) : pX3_meanOf (enc o) z post := by
  unfold pX3_meanOf
  cases o with
  | none => exact ⟨fun c => absurd c (by decide), fun _ => h⟩
  | some k =>
    have hk := ho k rfl
    refine ⟨fun _ => ?_, fun c => absurd (nI_pos' (by omega)) c⟩
    have hw := hI.2.2.2.2.2.1
    unfold pX3_meanOf_l13
    refine lp_intro (fun (a : Int32 × Int32 × Int32 × Int32) (u : Sg) => u = z ∧ a.1 = nI k ∧ ∃ i : Nat, i ≤ 5 ∧ a.2.2.2 = nI i ∧ a.2.1 = msum (m.2 6) (vl m k) i ∧ a.2.2.1 = mwt (m.2 6) (vl m k) i) (fun a _ => 5 - a.2.2.2.toNatClampNeg) ?_ _ _ ⟨rfl, rfl, 0, by omega, rfl, rfl, rfl⟩
    rintro K ⟨a, b, c, d⟩ u ⟨rfl, ha, i, hi, hd, hb, hc⟩ ih
    simp only at ha hb hc hd ih ⊢
    subst ha hb hc hd
    have e := q_nI (n := i) (by omega)
    have e1 := q_nI (n := i + 1) (by omega)
    unfold pX3_meanOf_b13 pX3_meanOf_b66
    refine ⟨fun c => ?_, fun c => ?_⟩
    · simp only [q_le, e, Int32.reduceToInt] at c
      have : i = 5 := by omega
      subst this
      obtain ⟨t, ht, ht2⟩ := mwt_bd (f := vl m k) hw 5 (by omega)
      refine e_rounded _ _ ?_ h
      rw [ht, q_nI (by omega)]
      omega
    · simp only [q_le, e, Int32.reduceToInt] at c
      refine e_val hC k i hk (by omega) ⟨fun d => ?_, fun d => ⟨q_in e (by omega), fun v hv => ⟨q_in e (by omega), fun v2 hv2 => ?_⟩⟩⟩
      · refine ih _ _ ⟨rfl, rfl, i + 1, by omega, nI_1 i, ?_, ?_⟩ (by simp only [nI_1, q_cl e, q_cl e1]; omega)
        · simp only [msum, if_pos d]
        · simp only [mwt, if_pos d]
      · have g6 : gA u 6 (nI i) = m.2 6 i := by unfold gA; rw [q_cl e, hC.a 6]
        refine ih _ _ ⟨rfl, rfl, i + 1, by omega, nI_1 i, ?_, ?_⟩ (by simp only [nI_1, q_cl e, q_cl e1]; omega)
        · simp only [msum, if_neg d]; rw [hv, g6]
        · simp only [mwt, if_neg d]; rw [hv2, g6]
theorem e_styleOf {post : Int32 → Sg → Prop} (hC : Cr m z) (o : Option Nat) (ho : ∀ k, o = some k → k < 200) (h : post (sty m o) z) : pX3_styleOf (enc o) z post := by
  unfold pX3_styleOf
  cases o with
  | none => exact ⟨fun c => absurd c (by decide), fun _ => h⟩
  | some k =>
    have hk := ho k rfl
    refine ⟨fun _ => ?_, fun c => absurd (nI_pos' (by omega)) c⟩
    unfold pX3_styleOf_l17
    refine lp_intro (fun (a : Int32 × Int32 × Int32 × Int32 × Int32) (u : Sg) => u = z ∧ a.1 = nI k ∧ ∃ i : Nat, i ≤ 5 ∧ a.2.2.2.2 = nI i ∧ a.2.1 = fsum (vl m k) i ∧ a.2.2.1 = fmn (vl m k) i ∧ a.2.2.2.1 = fmx (vl m k) i) (fun a _ => 5 - a.2.2.2.2.toNatClampNeg) ?_ _ _ ⟨rfl, rfl, 0, by omega, rfl, rfl, rfl, rfl⟩
    rintro K ⟨a, b, c, d, g⟩ u ⟨rfl, ha, i, hi, hg, hb, hc, hd⟩ ih
    simp only at ha hb hc hd hg ih ⊢
    subst ha hb hc hd hg
    have e := q_nI (n := i) (by omega)
    have e1 := q_nI (n := i + 1) (by omega)
    unfold pX3_styleOf_b17
    refine ⟨fun c => ?_, fun c => ?_⟩
    · simp only [q_le, e, Int32.reduceToInt] at c
      have : i = 5 := by omega
      subst this
      exact h
    · simp only [q_le, e, Int32.reduceToInt] at c
      refine e_val hC k i hk (by omega) (fun v hv v2 hv2 v3 hv3 => ?_)
      refine ih _ _ ⟨rfl, rfl, i + 1, by omega, nI_1 i, ?_, ?_, ?_⟩ (by simp only [nI_1, q_cl e, q_cl e1]; omega)
      · simp only [fsum]; exact hv
      · simp only [fmn]; exact hv2
      · simp only [fmx]; exact hv3
theorem e_gateOf {post : Int32 → Sg → Prop} (hC : Cr m z) (k : Nat) (hk : k < 200) (h : post (gat m k) z) : pX3_gateOf (nI k) z post := by
  have fin : gat m k = (2 * m.2 1 3) * (m.1 5 - vl m k 1) → pX3_gateOf_b57 post (nI k) z := fun e => by
    unfold pX3_gateOf_b57
    refine e_num hC 3 (by omega) (e_val hC k 1 hk (by omega) ?_)
    rw [hC.s 5, ← e]; exact h
  unfold pX3_gateOf pX3_gateOf_b18
  refine e_val hC k 2 hk (by omega) ⟨fun c => ⟨fun _ => fin (by unfold gat; rw [if_neg (fun q => c q.1)]), fun d => absurd rfl d⟩, fun c => ⟨fun d => absurd d (by decide), fun _ => ?_⟩⟩
  refine e_val hC k 0 hk (by omega) (e_num hC 4 (by omega) (e_num hC 0 (by omega) ⟨fun d => fin ?_, fun d => ?_⟩))
  · unfold gat
    rw [if_neg (fun q => Int32.not_lt.mpr d q.2)]
  · unfold gat at h
    rw [if_pos ⟨c, Int32.not_le.mp d⟩] at h
    exact h
theorem e_measure {post : Int32 → Sg → Prop} (hI : iv m) (hC : Cr m z) (hn : n ≤ nE m) (hK : Kn m n z) (q : Nat) (hq : q < 48) (h1 : ∀ k, lst m 0 q n = some k → hs m q n = true → post 1 (mz m q n k z)) (h0 : hs m q n = false → post 0 (sS z 10 (mea m (lst m 1 q n)))) : pX3_measure (nI q) z post := by
  unfold pX3_measure
  refine e_countingOf hK 1 q (by omega) hq (e_meanOf hI hC _ (fun k hk => kn_k hI hn hk) ?_)
  have hC1 := hC.tS 10 (mea m (lst m 1 q n))
  refine e_hasPoints hI hC1 hn hK q hq ⟨fun c => ?_, fun c => h0 ?_⟩
  · have hb : hs m q n = true := by
      cases hb : hs m q n with
      | true => rfl
      | false => rw [hb] at c; exact absurd rfl c
    cases hl : lst m 0 q n with
    | none => simp [hs, hl] at hb
    | some k =>
      have hk := kn_k hI hn hl
      have hK1 : Kn m n (sS z 10 (mea m (lst m 1 q n))) := hK
      refine e_countingOf hK1 0 q (by omega) hq ?_
      rw [hl]
      refine e_num hC1 1 (by omega) (e_val hC1 k 0 hk (by omega) (e_num hC1 0 (by omega) (fun v hv => ?_)))
      have hC2 := hC1.tS 6 v
      have hK2 : Kn m n (sS (sS z 10 (mea m (lst m 1 q n))) 6 v) := hK
      refine e_countingOf hK2 2 q (by omega) hq (e_styleOf hC2 _ (fun k hk => kn_k hI hn hk) ?_)
      have hC3 := hC2.tS 7 (sty m (lst m 2 q n))
      refine e_gateOf hC3 k hk ?_
      have hC4 := hC3.tS 8 (gat m k)
      refine e_num hC4 2 (by omega) (e_rounded _ _ (by decide) ?_)
      have hp := h1 k hl hb
      rw [hv]
      exact hp
  · cases hb : hs m q n with
    | false => rfl
    | true => rw [hb] at c; exact absurd c (by decide)
theorem mz_C {q k : Nat} (hC : Cr m z) : Cr m (mz m q n k z) := ((((hC.tS 10 _).tS 6 _).tS 7 _).tS 8 _).tS 9 _
theorem mz_sum {q k : Nat} (hl : lst m 0 q n = some k) : imax 0 (((((mz m q n k z).1 6) + ((mz m q n k z).1 7)) + ((mz m q n k z).1 8)) + ((mz m q n k z).1 9)) = pts m q n := by
  unfold pts
  rw [hl]
  rfl
theorem e_sum {q k : Nat} {post : Int32 → Sg → Prop} (hl : lst m 0 q n = some k) (h : post (pts m q n) (mz m q n k z)) : pX3_sum (mz m q n k z) post := by
  unfold pX3_sum
  rw [mz_sum hl]
  exact h
theorem pts_nn (q : Nat) : 0 ≤ pts m q n := by
  unfold pts
  split
  · decide
  · unfold imax
    split
    · rename_i h; exact Int32.le_of_lt h
    · decide
end PTS
