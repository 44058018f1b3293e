theorem e_value {z : Sg} {post : Int32 → Sg → Prop} (k i : Nat) (hk : k < 200) (hi : i < 5) (h : post (z.2 5 (5 * k + i)) z) : pX1_value (nI k) (nI i) z post := by
  unfold pX1_value pX1_value_b28 pX1_value_b29
  intro v hv
  have hv : v = nI (5 * k + i) := by rw [hv, show (5 : Int32) = nI 5 from rfl, pk_mul, nI_add, Nat.mul_comm]
  subst hv
  have e := q_nI (n := 5 * k + i) (by omega)
  refine ⟨fun c => ?_, fun _ => ⟨fun c => ?_, fun _ => ⟨q_in e (by omega), ?_⟩⟩⟩
  · simp only [q_lt, Int32.reduceToInt, e] at c; omega
  · simp only [q_le, Int32.reduceToInt, e] at c; omega
  · unfold gA; rw [q_cl e]; exact h
theorem e_isLetter {z : Sg} {post : Int32 → Sg → Prop} (a : Int32) (h1 : 0 ≤ a.toInt ∧ a.toInt < 7 → post 1 z) (h0 : ¬ (0 ≤ a.toInt ∧ a.toInt < 7) → post 0 z) : pX2_isLetter a z post := by
  unfold pX2_isLetter pX2_isLetter_b14 pX2_isLetter_b15
  refine ⟨fun c => ⟨Or.inl rfl, h0 ?_⟩, fun c => ⟨fun d => ⟨Or.inl rfl, h0 ?_⟩, fun d => ⟨Or.inr rfl, h1 ?_⟩⟩⟩ <;> simp only [q_lt, q_le, Int32.reduceToInt] at * <;> omega
theorem e_number {z : Sg} {post : Int32 → Sg → Prop} (a : Nat) (ha : a < 7) (h : post (z.2 1 a) z) : pX2_number (nI a) z post := by
  unfold pX2_number pX2_number_b17
  have e := q_nI (n := a) (by omega)
  refine e_isLetter _ (fun _ => ⟨fun c => absurd c (by decide), fun _ => ⟨q_in e ha, ?_⟩⟩) (fun c => absurd ⟨by omega, by omega⟩ c)
  unfold gA; rw [q_cl e]; exact h
/-- every place of the row of counting entries holds the last one's number -/
def Kn (m : Sg) (n : Nat) (z : Sg) : Prop := ∀ s q : Nat, s < 4 → q < 48 → z.2 7 (48 * s + q) = enc (lst m s q n)
theorem e_fill {z : Sg} {post : Sg → Prop} (h : ∀ f : Nat → Int32, (∀ i, i < 192 → f i = -1) → post (sR z 7 f)) : pJ7_fill_53178 (-1) z post := by
  unfold pJ7_fill_53178 pJ7_fill_53178_l5
  refine lp_intro (fun (a : Int32 × Int32 × Int32) (u : Sg) => a.1 = -1 ∧ a.2.2 = 192 ∧ ∃ k : Nat, a.2.1 = nI k ∧ k ≤ 192 ∧ ∃ f : Nat → Int32, (∀ i, i < k → f i = -1) ∧ u = sR z 7 f) (fun a _ => 192 - a.2.1.toNatClampNeg) ?_ _ _ ⟨rfl, rfl, 0, rfl, by omega, z.2 7, fun i hi => absurd hi (Nat.not_lt_zero i), (sR_self z 7).symm⟩
  rintro K ⟨a, b, c⟩ u ⟨ha, hc, k, hb, hk, f, hf, hu⟩ ih
  simp only at ha hb hc ih ⊢
  subst ha hb hc hu
  have e := q_nI (n := k) (by omega)
  unfold pJ7_fill_53178_b5
  refine ⟨fun c => ?_, fun c => ⟨?_, ?_⟩⟩
  · simp only [q_le, Int32.reduceToInt, e] at c
    exact h f (fun i hi => hf i (by omega))
  · simp only [q_le, Int32.reduceToInt, e] at c
    exact q_in e (by omega)
  · simp only [q_le, Int32.reduceToInt, e] at c
    have e1 := q_nI (n := k + 1) (by omega)
    refine ih _ _ ⟨rfl, rfl, k + 1, nI_1 k, by omega, upd f k (-1), fun i hi => ?_, ?_⟩ ?_
    · by_cases q : i = k
      · subst q; exact upd_at _ _ _
      · rw [upd_ne _ _ _ _ q]; exact hf i (by omega)
    · unfold sA
      rw [q_cl e, sR_at, sR_sR]
    · rw [nI_1, q_cl e, q_cl e1]; omega
theorem e_know {m z : Sg} {post : Sg → Prop} (hI : iv m) (hC : Cr m z) (n : Nat) (hn : n ≤ nE m) (h : ∀ f : Nat → Int32, Kn m n (sR z 7 f) → post (sR z 7 f)) : pX3_know (nI n) z post := by
  unfold pX3_know
  refine e_fill fun f0 h0 => ?_
  have hE : nE m ≤ 200 := hI.2.2.1.2
  unfold pX3_know_l10
  refine lp_intro (fun (a : Int32 × Int32) (u : Sg) => a.1 = nI n ∧ ∃ k : Nat, a.2 = nI k ∧ k ≤ n ∧ ∃ f : Nat → Int32, Kn m k (sR z 7 f) ∧ u = sR z 7 f) (fun a _ => n - a.2.toNatClampNeg) ?_ _ _ ⟨rfl, 0, rfl, by omega, f0, fun s q hs hq => ?_, rfl⟩
  · rintro K ⟨a, b⟩ u ⟨ha, k, hb, hk, f, hf, hu⟩ ih
    simp only at ha hb ih ⊢
    subst ha hb hu
    have e := q_nI (n := k) (by omega)
    have en := q_nI (n := n) (by omega)
    unfold pX3_know_b10 pX3_know_b71 pX3_know_b65
    refine ⟨fun c => ?_, fun c => ⟨fun d => ?_, fun d => ⟨q_in e (by simp only [q_le, e, Int32.reduceToInt] at d; omega), q_in e (by simp only [q_le, e, Int32.reduceToInt] at d; omega), fun v hv => ?_⟩⟩⟩
    · simp only [q_le, e, en] at c
      have : k = n := by omega
      subst this
      exact h f hf
    · simp only [q_le, e, en, Int32.reduceToInt] at c d
      omega
    · simp only [q_le, e, en] at c
      obtain ⟨s, q, hs, hq, -, e3, e4, -⟩ := hI.2.2.2.2.2.2.1 k (by omega)
      have g3 : gA (sR z 7 f) 3 (nI k) = nI s := by unfold gA; rw [q_cl e, sR_ne _ _ _ _ (by decide), hC.a 3, e3]
      have g4 : gA (sR z 7 f) 4 (nI k) = nI q := by unfold gA; rw [q_cl e, sR_ne _ _ _ _ (by decide), hC.a 4, e4]
      rw [g3, g4, show (48 : Int32) = nI 48 from rfl, pk_mul, nI_add, Nat.mul_comm] at hv
      subst hv
      have ev := q_nI (n := 48 * s + q) (by omega)
      have e1 := q_nI (n := k + 1) (by omega)
      refine ⟨fun d => ?_, fun _ => ⟨fun d => ?_, fun _ => ⟨q_in ev (by omega), ?_⟩⟩⟩
      · simp only [q_lt, ev, Int32.reduceToInt] at d; omega
      · simp only [q_le, ev, Int32.reduceToInt] at d; omega
      · refine ih _ _ ⟨rfl, k + 1, nI_1 k, by omega, upd f (48 * s + q) (nI k), fun s' q' hs' hq' => ?_, ?_⟩ ?_
        · rw [sR_at]
          unfold lst
          by_cases c1 : s' = s ∧ q' = q
          · obtain ⟨rfl, rfl⟩ := c1
            rw [upd_at, if_pos ⟨e3, e4⟩]
            rfl
          · rw [upd_ne _ _ _ _ (by omega), if_neg (fun hh => c1 ?_)]
            · have := hf s' q' hs' hq'
              rw [sR_at] at this
              exact this
            · rw [e3, e4] at hh
              have h1 := (nI_eq (a := s) (b := s') (by omega) (by omega)).mp hh.1
              have h2 := (nI_eq (a := q) (b := q') (by omega) (by omega)).mp hh.2
              exact ⟨h1.symm, h2.symm⟩
        · unfold sA
          rw [q_cl ev, sR_at, sR_sR]
        · rw [nI_1, q_cl e, q_cl e1]; omega
  · rw [sR_at, h0 _ (by omega)]
    rfl
theorem e_countingOf {m z : Sg} {n : Nat} {post : Int32 → Sg → Prop} (hK : Kn m n z) (s q : Nat) (hs : s < 4) (hq : q < 48) (h : post (enc (lst m s q n)) z) : pX3_countingOf (nI s) (nI q) z post := by
  unfold pX3_countingOf pX3_countingOf_b29 pX3_countingOf_b30
  intro v hv
  have hv : v = nI (48 * s + q) := by rw [hv, show (48 : Int32) = nI 48 from rfl, pk_mul, nI_add, Nat.mul_comm]
  subst hv
  have e := q_nI (n := 48 * s + q) (by omega)
  refine ⟨fun c => ?_, fun _ => ⟨fun c => ?_, fun _ => ⟨q_in e (by omega), ?_⟩⟩⟩
  · simp only [q_lt, Int32.reduceToInt, e] at c; omega
  · simp only [q_le, Int32.reduceToInt, e] at c; omega
  · unfold gA; rw [q_cl e, hK s q hs hq]; exact h
