/-- a state in the midst of drawing the board -/
def Dzo (m : Sg) (n : Nat) (z u : Sg) : Prop := Cr m u ∧ Kn m n u ∧ ∀ k, 8 ≤ k → k ≤ 12 → u.2 k = z.2 k
theorem Dzo.tS {m z u : Sg} {n : Nat} (h : Dzo m n z u) (k : Nat) (v : Int32) (hk : ¬ pS k := by decide) : Dzo m n z (sS u k v) := ⟨h.1.tS k v hk, h.2.1, h.2.2⟩
theorem Dzo.tA {m z u : Sg} {n : Nat} (h : Dzo m n z u) (k : Nat) (i v : Int32) (hk : 13 ≤ k ∧ k ≤ 17 := by decide) : Dzo m n z (sA u k i v) :=
  ⟨h.1.tA k i v (by unfold pA; omega), fun s q hs hq => by rw [sA_ne _ _ _ _ _ (by omega)]; exact h.2.1 s q hs hq, fun j h1 h2 => by rw [sA_ne _ _ _ _ _ (by omega)]; exact h.2.2 j h1 h2⟩
theorem Dzo.mz {m z u : Sg} {n q k : Nat} (h : Dzo m n z u) : Dzo m n z (mz m q n k u) := ((((h.tS 10 _).tS 6 _).tS 7 _).tS 8 _).tS 9 _
/-- the drawn board -/
def Bdo (m : Sg) (n : Nat) (z u : Sg) : Prop := Dzo m n z u ∧ (∀ i, i < 24 → u.2 13 i = fp m n i) ∧ (∀ i, i < 24 → u.2 14 i = b2 (th m n i)) ∧ (∀ i, i < 24 → u.2 15 i = tot m n i) ∧ (∀ i, i < 24 → u.2 16 i = pl m n i) ∧ (∃ f, u.2 17 = od m n f 24) ∧ u.1 14 = nI (ct (on m n) 24) ∧ u.1 15 = nI (ct (th m n) 24)
section BRDo
variable {m z : Sg} {n : Nat}
theorem e_aheado {u : Sg} {post : Int32 → Sg → Prop} (hC : Cr m u) (hF : ∀ i, i < 24 → u.2 13 i = fp m n i) (j : Nat) (hj : j < 24) (h : post (nI (ct (ah m n j) 24)) u) : pX0_aheadInRoundZeroo (nI j) u post := by
  have ej := q_nI (n := j) (by omega)
  have key : ∀ al : Int32, (al = 0 ∨ al = 1) → (al = 0 ↔ ¬ m.2 1 6 = 0) → pX0_aheadInRoundZeroo_l21 post (nI j) al 0 0 u := by
    intro al h01 hal
    unfold pX0_aheadInRoundZeroo_l21
    refine lp_intro (fun (a : Int32 × Int32 × Int32 × Int32) (w : Sg) => w = u ∧ a.1 = nI j ∧ a.2.1 = al ∧ ∃ o : Nat, o ≤ 24 ∧ a.2.2.2 = nI o ∧ a.2.2.1 = nI (ct (ah m n j) o)) (fun a _ => 24 - a.2.2.2.toNatClampNeg) ?_ _ _ ⟨rfl, rfl, rfl, 0, by omega, rfl, rfl⟩
    rintro K ⟨a, b, c, d⟩ w ⟨rfl, ha, hb, o, ho, hd, hc⟩ ih
    simp only at ha hb hc hd ih ⊢
    subst ha hb hc hd
    have e := q_nI (n := o) (by omega)
    have e1 := q_nI (n := o + 1) (by omega)
    have go : o < 24 → ∀ r : Bool, r = ah m n j o → K (nI j, b, nI (ct (ah m n j) o) + b2 r, nI o + 1) w := fun ho9 r hr => by
      refine ih _ _ ⟨rfl, rfl, rfl, o + 1, by omega, nI_1 o, ?_⟩ (by simp only [nI_1, q_cl e, q_cl e1]; omega)
      simp only [ct]
      subst hr
      cases ah m n j o
      · show nI _ + 0 = _
        simp
      · show nI _ + 1 = _
        rw [nI_1]; simp
    unfold pX0_aheadInRoundZeroo_b21
    refine ⟨fun c => ?_, fun c => ?_⟩
    · simp only [q_le, e, Int32.reduceToInt] at c
      have : o = 24 := by omega
      subst this
      exact h
    · simp only [q_le, e, Int32.reduceToInt] at c
      have g1 : gA w 13 (nI o) = fp m n o := by unfold gA; rw [q_cl e, hF o (by omega)]
      have g2 : gA w 13 (nI j) = fp m n j := by unfold gA; rw [q_cl ej, hF j hj]
      simp only [g1, g2]
      have fT : ah m n j o = true → pX0_aheadInRoundZeroo_b70 (fun (x1 x3 x4 x5 : Int32) z => K (x1, x3, x4, x5) z) post (nI j) b (nI (ct (ah m n j) o)) (nI o) w := fun hr => by
        unfold pX0_aheadInRoundZeroo_b70 pX0_aheadInRoundZeroo_b75 pX0_aheadInRoundZeroo_b89
        exact ⟨fun c => absurd c (by decide), fun _ v hv => hv ▸ go (by omega) true hr.symm⟩
      have fF : ah m n j o = false → pX0_aheadInRoundZeroo_b74 (fun (x1 x3 x4 x5 : Int32) z => K (x1, x3, x4, x5) z) post (nI j) b (nI (ct (ah m n j) o)) (nI o) w := fun hr => by
        unfold pX0_aheadInRoundZeroo_b74 pX0_aheadInRoundZeroo_b75 pX0_aheadInRoundZeroo_b89
        exact ⟨fun _ v hv => hv ▸ go (by omega) false hr.symm, fun c => absurd rfl c⟩
      refine ⟨q_in e (by omega), q_in ej hj, fun c1 => fT (by simp [ah, c1]), fun c1 => ⟨fun c2 => fF ?_, fun c2 => ⟨q_in e (by omega), q_in ej hj, fun c3 => fF ?_, fun c3 => ⟨fun c4 => fF ?_, fun c4 => fT ?_⟩⟩⟩⟩
      · simp [ah, c1, hal.mp c2]
      · simp [ah, c1, c3]
      · simp only [q_le, e, ej] at c4
        have : ¬ o < j := by omega
        simp [ah, c1, this]
      · simp only [q_le, e, ej] at c4
        have h1 : o < j := by omega
        have h2 : m.2 1 6 = 0 := Classical.byContradiction fun q => c2 (hal.mpr q)
        simp [ah, h2, c3, h1]
  unfold pX0_aheadInRoundZeroo
  refine e_num hC 6 (by omega) ?_
  exact ⟨fun c => key 0 (Or.inl rfl) ⟨fun _ => c, fun _ => rfl⟩, fun c => key 1 (Or.inr rfl) ⟨fun h => absurd h (by decide), fun h => absurd c h⟩⟩
theorem e_isBettero {u : Sg} {post : Int32 → Sg → Prop} (hT : ∀ i, i < 24 → u.2 14 i = b2 (th m n i)) (hU : ∀ i, i < 24 → u.2 15 i = tot m n i) (o j : Nat) (ho : o < 24) (hj : j < 24) (h : post (b2 (bt m n o j)) u) : pX0_isBettero (nI o) (nI j) u post := by
  have e := q_nI (n := o) (by omega)
  have ej := q_nI (n := j) (by omega)
  have g1 : gA u 14 (nI o) = b2 (th m n o) := by unfold gA; rw [q_cl e, hT o ho]
  have g2 : gA u 14 (nI j) = b2 (th m n j) := by unfold gA; rw [q_cl ej, hT j hj]
  have g3 : gA u 15 (nI o) = tot m n o := by unfold gA; rw [q_cl e, hU o ho]
  have g4 : gA u 15 (nI j) = tot m n j := by unfold gA; rw [q_cl ej, hU j hj]
  unfold pX0_isBettero pX0_isBettero_b44
  rw [g1, g2, g3, g4]
  refine ⟨q_in e ho, q_in ej hj, fun c => ⟨q_in e ho, b2_01 _, ?_⟩, fun c => ⟨q_in e ho, q_in ej hj, fun d => ⟨Or.inl rfl, ?_⟩, fun d => ⟨Or.inr rfl, ?_⟩⟩⟩
  · have : ¬ th m n o = th m n j := fun q => c (by rw [q])
    unfold bt at h
    rw [if_neg this] at h
    exact h
  · have : th m n o = th m n j := by cases h1 : th m n o <;> cases h2 : th m n j <;> first | rfl | (rw [h1, h2] at c; exact absurd c (by decide))
    unfold bt at h
    rw [if_pos this, decide_eq_false (Int32.not_lt.mpr d)] at h
    exact h
  · have : th m n o = th m n j := by cases h1 : th m n o <;> cases h2 : th m n j <;> first | rfl | (rw [h1, h2] at c; exact absurd c (by decide))
    unfold bt at h
    rw [if_pos this, decide_eq_true (Int32.not_le.mp d)] at h
    exact h
theorem e_placeOnListo {u : Sg} {post : Sg → Prop} (hF : ∀ i, i < 24 → u.2 13 i = fp m n i) (hT : ∀ i, i < 24 → u.2 14 i = b2 (th m n i)) (hU : ∀ i, i < 24 → u.2 15 i = tot m n i) (j : Nat) (hj : j < 24)
    (h0 : on m n j = false → post (sA u 16 (nI j) 0)) (h1 : on m n j = true → pos m n j < 24 → post (sA (sA (sA u 16 (nI j) 0) 16 (nI j) (1 + nI (ct (be m n j) 24))) 17 (nI (pos m n j)) (nI j)))
    (h2 : on m n j = true → ¬ pos m n j < 24 → post (sA (sA u 16 (nI j) 0) 16 (nI j) (1 + nI (ct (be m n j) 24)))) : pX0_placeOnListo (nI j) u post := by
  have ej := q_nI (n := j) (by omega)
  have gj : gA u 13 (nI j) = fp m n j := by unfold gA; rw [q_cl ej, hF j hj]
  unfold pX0_placeOnListo
  rw [gj]
  refine ⟨q_in ej hj, q_in ej hj, fun c => ?_, fun c => h0 (fp_lt.mp (Int32.not_le.mp c))⟩
  have hon : on m n j = true := by
    cases hb : on m n j with
    | true => rfl
    | false => exact absurd (fp_lt.mpr hb) (Int32.not_lt.mpr c)
  have hF1 : ∀ i, i < 24 → (sA u 16 (nI j) 0).2 13 i = fp m n i := fun i hi => by rw [sA_ne _ _ _ _ _ (by decide)]; exact hF i hi
  have hT1 : ∀ i, i < 24 → (sA u 16 (nI j) 0).2 14 i = b2 (th m n i) := fun i hi => by rw [sA_ne _ _ _ _ _ (by decide)]; exact hT i hi
  have hU1 : ∀ i, i < 24 → (sA u 16 (nI j) 0).2 15 i = tot m n i := fun i hi => by rw [sA_ne _ _ _ _ _ (by decide)]; exact hU i hi
  generalize hu1 : sA u 16 (nI j) 0 = u1 at *
  unfold pX0_placeOnListo_l24
  refine lp_intro (fun (a : Int32 × Int32 × Int32 × Int32) (w : Sg) => w = u1 ∧ a.1 = nI j ∧ ∃ o : Nat, o ≤ 24 ∧ a.2.2.2 = nI o ∧ a.2.1 = nI (ct (be m n j) o) ∧ a.2.2.1 = nI (ct (al m n j) o)) (fun a _ => 24 - a.2.2.2.toNatClampNeg) ?_ _ _ ⟨rfl, rfl, 0, by omega, rfl, rfl, rfl⟩
  rintro K ⟨a, b, c, d⟩ w ⟨rfl, ha, o, ho, hd, hb, hc⟩ ih
  simp only at ha hb hc hd ih ⊢
  subst ha hb hc hd
  have e := q_nI (n := o) (by omega)
  have e1 := q_nI (n := o + 1) (by omega)
  have l1 := ct_le (be m n j) o
  have l2 := ct_le (al m n j) o
  have go : o < 24 → ∀ r q : Bool, r = be m n j o → q = al m n j o → K (nI j, nI (ct (be m n j) o) + b2 r, nI (ct (al m n j) o) + b2 q, nI o + 1) w := fun ho9 r q hr hq => by
    refine ih _ _ ⟨rfl, rfl, o + 1, by omega, nI_1 o, ?_, ?_⟩ (by simp only [nI_1, q_cl e, q_cl e1]; omega)
    · simp only [ct]
      subst hr
      cases be m n j o
      · show nI _ + 0 = _
        simp
      · show nI _ + 1 = _
        rw [nI_1]; simp
    · simp only [ct]
      subst hq
      cases al m n j o
      · show nI _ + 0 = _
        simp
      · show nI _ + 1 = _
        rw [nI_1]; simp
  unfold pX0_placeOnListo_b24
  refine ⟨fun c => ?_, fun c => ⟨q_in e (by simp only [q_le, e, Int32.reduceToInt] at c; omega), ?_⟩⟩
  · simp only [q_le, e, Int32.reduceToInt] at c
    have : o = 24 := by omega
    subst this
    refine ⟨q_in ej hj, fun v hv => ?_⟩
    have hp : v = nI (pos m n j) := by rw [hv, nI_add]; rfl
    have hps : pos m n j < 2147483648 := by unfold pos; omega
    have ep := q_nI (n := pos m n j) hps
    unfold pX0_placeOnListo_b140
    rw [hp]
    refine ⟨fun d => h2 hon ?_, fun d => ⟨q_in ep ?_, h1 hon ?_⟩⟩ <;> simp only [q_le, ep, Int32.reduceToInt] at d <;> omega
  · simp only [q_le, e, Int32.reduceToInt] at c
    have go' : gA w 13 (nI o) = fp m n o := by unfold gA; rw [q_cl e, hF1 o (by omega)]
    have g1 : gA w 14 (nI o) = b2 (th m n o) := by unfold gA; rw [q_cl e, hT1 o (by omega)]
    have g2 : gA w 14 (nI j) = b2 (th m n j) := by unfold gA; rw [q_cl ej, hT1 j hj]
    have g3 : gA w 15 (nI o) = tot m n o := by unfold gA; rw [q_cl e, hU1 o (by omega)]
    have g4 : gA w 15 (nI j) = tot m n j := by unfold gA; rw [q_cl ej, hU1 j hj]
    rw [go']
    unfold pX0_placeOnListo_b105
    refine ⟨fun c1 => ?_, fun c1 => ?_⟩
    · have hf := fp_lt.mp c1
      have := go (by omega) false false (by simp [be, hf]) (by simp [al, hf])
      rw [b2_f, Int32.add_zero, Int32.add_zero] at this
      exact this
    · have hf : on m n o = true := by
        cases hb : on m n o with
        | true => rfl
        | false => exact absurd (fp_lt.mpr hb) c1
      refine e_isBettero hT1 hU1 o j (by omega) hj ?_
      have key : pX0_placeOnListo_b57 (fun (x1 x2 x3 x4 : Int32) z => K (x1, x2, x3, x4) z) post (nI j) (nI (ct (al m n j) o)) (nI o) (b2 (bt m n o j)) (nI (ct (be m n j) o)) w := by
        unfold pX0_placeOnListo_b57 pX0_placeOnListo_b102 pX0_placeOnListo_b103 pX0_placeOnListo_b105
        intro v hv
        subst hv
        have hbe : be m n j o = bt m n o j := by simp [be, hf]
        simp only [g1, g2, g3, g4]
        have fF : al m n j o = false → ∀ v1 : Int32, v1 = nI (ct (al m n j) o) + 0 → K (nI j, nI (ct (be m n j) o) + b2 (bt m n o j), v1, nI o + 1) w := fun hq v1 hv1 => by
          rw [hv1]
          exact go (by omega) _ false hbe.symm hq.symm
        have fT : al m n j o = true → ∀ v1 : Int32, v1 = nI (ct (al m n j) o) + 1 → K (nI j, nI (ct (be m n j) o) + b2 (bt m n o j), v1, nI o + 1) w := fun hq v1 hv1 => by
          rw [hv1]
          exact go (by omega) _ true hbe.symm hq.symm
        have b2i : b2 (th m n o) = b2 (th m n j) ↔ th m n o = th m n j := ⟨fun c => by cases h1 : th m n o <;> cases h2 : th m n j <;> first | rfl | (rw [h1, h2] at c; exact absurd c (by decide)), fun q => by rw [q]⟩
        refine ⟨fun c2 => fF ?_, fun c2 => ⟨q_in e (by omega), q_in ej hj, fun c3 => fF ?_, fun c3 => ⟨q_in e (by omega), q_in ej hj, fun c4 => fF ?_, fun c4 => fT ?_⟩⟩⟩
        · simp only [q_le, e, ej] at c2
          have : ¬ o < j := by omega
          simp [al, this]
        · have : ¬ th m n o = th m n j := fun q => c3 (b2i.mpr q)
          simp [al, this]
        · simp [al, c4]
        · simp only [q_le, e, ej] at c2
          have : o < j := by omega
          simp [al, hf, this, b2i.mp c3, c4]
      cases hb : bt m n o j with
      | true =>
        rw [hb] at key
        exact ⟨fun c => absurd c (by decide), fun _ => key⟩
      | false =>
        rw [hb] at key
        exact ⟨fun _ => key, fun c => absurd rfl c⟩
theorem e_drawo {post : Sg → Prop} (hI : iv m) (hC : Cr m z) (hn : n ≤ nE m) (h : ∀ u, Bdo m n z u → post u) : pX0_drawo (nI n) (nI (nJ m)) z post := by
  have hJ := hI.2.1.2
  -- the third loop
  have L3 : ∀ u, Dzo m n z u → (∀ i, i < 24 → u.2 13 i = fp m n i) → (∀ i, i < 24 → u.2 14 i = b2 (th m n i)) → (∀ i, i < 24 → u.2 15 i = tot m n i) → u.1 14 = nI (ct (on m n) 24) → u.1 15 = nI (ct (th m n) 24) → pX0_drawo_l235 post 0 u := by
    intro u0 d0 f0 t0 s0 l0 p0
    unfold pX0_drawo_l235
    refine lp_intro (fun (a : Int32) (u : Sg) => ∃ j : Nat, j ≤ 24 ∧ a = nI j ∧ Dzo m n z u ∧ (∀ i, i < 24 → u.2 13 i = fp m n i) ∧ (∀ i, i < 24 → u.2 14 i = b2 (th m n i)) ∧ (∀ i, i < 24 → u.2 15 i = tot m n i) ∧ (∀ i, i < j → u.2 16 i = pl m n i) ∧ (∃ f, u.2 17 = od m n f j) ∧ u.1 14 = nI (ct (on m n) 24) ∧ u.1 15 = nI (ct (th m n) 24)) (fun a _ => 24 - a.toNatClampNeg) ?_ _ _ ⟨0, by omega, rfl, d0, f0, t0, s0, fun i hi => absurd hi (Nat.not_lt_zero i), ⟨u0.2 17, rfl⟩, l0, p0⟩
    rintro K a u ⟨j, hj, rfl, d1, f1, t1, s1, q1, ⟨f, o1⟩, l1, p1⟩ ih
    have e := q_nI (n := j) (by omega)
    have e1 := q_nI (n := j + 1) (by omega)
    unfold pX0_drawo_b235
    refine ⟨fun c => ?_, fun c => ?_⟩
    · simp only [q_le, e, Int32.reduceToInt] at c
      have : j = 24 := by omega
      subst this
      exact h u ⟨d1, f1, t1, s1, q1, ⟨f, o1⟩, l1, p1⟩
    · simp only [q_le, e, Int32.reduceToInt] at c
      have hm : 24 - (nI j + 1).toNatClampNeg < 24 - (nI j).toNatClampNeg := by simp only [nI_1, q_cl e, q_cl e1]; omega
      refine e_placeOnListo f1 t1 s1 j (by omega) (fun ho => ?_) (fun ho hp => ?_) (fun ho hp => ?_)
      · refine ih _ _ ⟨j + 1, by omega, nI_1 j, d1.tA _ _ _, fun i hi => ?_, fun i hi => ?_, fun i hi => ?_, fun i hi => ?_, ⟨f, ?_⟩, l1, p1⟩ hm
        · rw [sA_ne _ _ _ _ _ (by decide)]; exact f1 i hi
        · rw [sA_ne _ _ _ _ _ (by decide)]; exact t1 i hi
        · rw [sA_ne _ _ _ _ _ (by decide)]; exact s1 i hi
        · rw [sA_at, q_cl e]
          by_cases hij : i = j
          · subst hij; rw [upd_at]; simp [pl, ho]
          · rw [upd_ne _ _ _ _ hij]; exact q1 i (by omega)
        · rw [sA_ne _ _ _ _ _ (by decide), o1]; simp [od, ho]
      · have ep := q_nI (n := pos m n j) (by omega)
        refine ih _ _ ⟨j + 1, by omega, nI_1 j, ((d1.tA _ _ _).tA _ _ _).tA _ _ _, fun i hi => ?_, fun i hi => ?_, fun i hi => ?_, fun i hi => ?_, ⟨f, ?_⟩, l1, p1⟩ hm
        · rw [sA_ne _ _ _ _ _ (by decide), sA_ne _ _ _ _ _ (by decide), sA_ne _ _ _ _ _ (by decide)]; exact f1 i hi
        · rw [sA_ne _ _ _ _ _ (by decide), sA_ne _ _ _ _ _ (by decide), sA_ne _ _ _ _ _ (by decide)]; exact t1 i hi
        · rw [sA_ne _ _ _ _ _ (by decide), sA_ne _ _ _ _ _ (by decide), sA_ne _ _ _ _ _ (by decide)]; exact s1 i hi
        · rw [sA_ne _ _ _ _ _ (by decide), sA_at, sA_at, q_cl e]
          by_cases hij : i = j
          · subst hij; rw [upd_at]; simp only [pl, ho, if_true]; rw [show (1 : Int32) = nI 1 from rfl, nI_add]
          · rw [upd_ne _ _ _ _ hij, upd_ne _ _ _ _ hij]; exact q1 i (by omega)
        · rw [sA_at, sA_ne _ _ _ _ _ (by decide), sA_ne _ _ _ _ _ (by decide), o1, q_cl ep]; simp [od, ho, hp]
      · refine ih _ _ ⟨j + 1, by omega, nI_1 j, (d1.tA _ _ _).tA _ _ _, fun i hi => ?_, fun i hi => ?_, fun i hi => ?_, fun i hi => ?_, ⟨f, ?_⟩, l1, p1⟩ hm
        · rw [sA_ne _ _ _ _ _ (by decide), sA_ne _ _ _ _ _ (by decide)]; exact f1 i hi
        · rw [sA_ne _ _ _ _ _ (by decide), sA_ne _ _ _ _ _ (by decide)]; exact t1 i hi
        · rw [sA_ne _ _ _ _ _ (by decide), sA_ne _ _ _ _ _ (by decide)]; exact s1 i hi
        · rw [sA_at, sA_at, q_cl e]
          by_cases hij : i = j
          · subst hij; rw [upd_at]; simp only [pl, ho, if_true]; rw [show (1 : Int32) = nI 1 from rfl, nI_add]
          · rw [upd_ne _ _ _ _ hij, upd_ne _ _ _ _ hij]; exact q1 i (by omega)
        · rw [sA_ne _ _ _ _ _ (by decide), sA_ne _ _ _ _ _ (by decide), o1]; simp [od, ho, hp]
  -- the second loop
  have L2 : ∀ u, Dzo m n z u → (∀ i, i < 24 → u.2 13 i = fp m n i) → u.1 14 = nI (ct (on m n) 24) → u.1 15 = 0 → pX0_drawo_l95 post 0 u := by
    intro u0 d0 f0 l0 p0
    unfold pX0_drawo_l95
    refine lp_intro (fun (a : Int32) (u : Sg) => ∃ j : Nat, j ≤ 24 ∧ a = nI j ∧ Dzo m n z u ∧ (∀ i, i < 24 → u.2 13 i = fp m n i) ∧ (∀ i, i < j → u.2 14 i = b2 (th m n i)) ∧ (∀ i, i < j → u.2 15 i = tot m n i) ∧ u.1 14 = nI (ct (on m n) 24) ∧ u.1 15 = nI (ct (th m n) j)) (fun a _ => 24 - a.toNatClampNeg) ?_ _ _ ⟨0, by omega, rfl, d0, f0, fun i hi => absurd hi (Nat.not_lt_zero i), fun i hi => absurd hi (Nat.not_lt_zero i), l0, p0⟩
    rintro K a u ⟨j, hj, rfl, d1, f1, t1, s1, l1, p1⟩ ih
    have e := q_nI (n := j) (by omega)
    have e1 := q_nI (n := j + 1) (by omega)
    unfold pX0_drawo_b95
    refine ⟨fun c => ?_, fun c => ?_⟩
    · simp only [q_le, e, Int32.reduceToInt] at c
      have : j = 24 := by omega
      subst this
      exact L3 u d1 f1 t1 s1 l1 p1
    · simp only [q_le, e, Int32.reduceToInt] at c
      have hm : 24 - (nI j + 1).toNatClampNeg < 24 - (nI j).toNatClampNeg := by simp only [nI_1, q_cl e, q_cl e1]; omega
      have gj : gA u 13 (nI j) = fp m n j := by unfold gA; rw [q_cl e, f1 j (by omega)]
      -- what is left once it is known who is through
      have rest : ∀ b : Bool, b = th m n j → pX0_drawo_b144 (fun (x4 : Int32) z => K x4 z) post (nI j) (b2 b) (nI j) u := fun b hb => by
        unfold pX0_drawo_b144
        refine ⟨q_in e (by omega), q_in e (by omega), ?_⟩
        have gT : gA (sA u 14 (nI j) (vp_nar .boolean (b2 b))) 14 (nI j) = b2 b := by unfold gA; rw [sA_at, upd_at, nar_b2]
        rw [gT]
        have hx : sA u 14 (nI j) (vp_nar .boolean (b2 b)) = sA u 14 (nI j) (b2 b) := by rw [nar_b2]
        rw [hx]
        have d2 : Dzo m n z (sA u 14 (nI j) (b2 b)) := d1.tA _ _ _
        have f2 : ∀ i, i < 24 → (sA u 14 (nI j) (b2 b)).2 13 i = fp m n i := fun i hi => by rw [sA_ne _ _ _ _ _ (by decide)]; exact f1 i hi
        have t2 : ∀ i, i < j + 1 → (sA u 14 (nI j) (b2 b)).2 14 i = b2 (th m n i) := fun i hi => by
          rw [sA_at, q_cl e]
          by_cases hij : i = j
          · subst hij; rw [upd_at, hb]
          · rw [upd_ne _ _ _ _ hij]; exact t1 i (by omega)
        have s2 : ∀ i, i < j → (sA u 14 (nI j) (b2 b)).2 15 i = tot m n i := fun i hi => by rw [sA_ne _ _ _ _ _ (by decide)]; exact s1 i hi
        have l2 : (sA u 14 (nI j) (b2 b)).1 14 = nI (ct (on m n) 24) := l1
        have p2 : (sA u 14 (nI j) (b2 b)).1 15 = nI (ct (th m n) j) := p1
        have p3 : u.1 15 + b2 b = nI (ct (th m n) (j + 1)) := by
          rw [p1, hb]
          simp only [ct]
          cases th m n j
          · show nI _ + 0 = _
            simp
          · show nI _ + 1 = _
            rw [nI_1]; simp
        generalize hu2 : sA u 14 (nI j) (b2 b) = u2 at *
        have last : ∀ u3, Dzo m n z u3 → u3.2 = u2.2 ∨ (∀ k, u3.2 k = u2.2 k) → (u3.1 14 = nI (ct (on m n) 24)) → u3.1 15 = nI (ct (th m n) (j + 1)) → ∀ r : Int32, fp m n j + r = tot m n j → pX0_drawo_b224 (fun (x4 : Int32) z => K x4 z) post (nI j) r (fp m n j) (nI j) u3 := fun u3 d3 h3 l3 p4 r hr => by
          have h3 : ∀ k, u3.2 k = u2.2 k := h3.elim (fun q k => by rw [q]) id
          unfold pX0_drawo_b224
          refine ⟨q_in e (by omega), ih _ _ ⟨j + 1, by omega, nI_1 j, d3.tA _ _ _, fun i hi => ?_, fun i hi => ?_, fun i hi => ?_, l3, p4⟩ hm⟩
          · rw [sA_ne _ _ _ _ _ (by decide), h3]; exact f2 i hi
          · rw [sA_ne _ _ _ _ _ (by decide), h3]; exact t2 i hi
          · rw [sA_at, q_cl e]
            by_cases hij : i = j
            · subst hij; rw [upd_at, hr]
            · rw [upd_ne _ _ _ _ hij, h3]; exact s2 i (by omega)
        have none' : ∀ u3, Dzo m n z u3 → (∀ k, u3.2 k = u2.2 k) → (u3.1 14 = nI (ct (on m n) 24)) → u3.1 15 = nI (ct (th m n) (j + 1)) → (th m n j && hs m (24 + j) n) = false → pX0_drawo_b195 (fun (x4 : Int32) z => K x4 z) post (nI j) u3 := fun u3 d3 h3 l3 p4 hq => by
          unfold pX0_drawo_b195 pX0_drawo_b196
          have g8 : gA u3 13 (nI j) = fp m n j := by unfold gA; rw [q_cl e, h3, f2 j (by omega)]
          rw [g8]
          exact ⟨q_in e (by omega), fun _ => last u3 d3 (Or.inr h3) l3 p4 0 (by unfold tot; rw [hq]; rfl), fun c => absurd rfl c⟩
        have main : ∀ y : Int32, y = b2 b → pX0_drawo_b165 (fun (x4 : Int32) z => K x4 z) post (nI j) y (u.1 15) u2 := fun y hy => by
          have gT2 : gA u2 14 (nI j) = b2 b := by unfold gA; rw [q_cl e, t2 j (by omega), hb]
          unfold pX0_drawo_b165
          rw [gT2, hy]
          have d4 : Dzo m n z (sS u2 15 (u.1 15 + b2 b)) := d2.tS _ _
          have l4 : (sS u2 15 (u.1 15 + b2 b)).1 14 = nI (ct (on m n) 24) := by rw [sS_ne _ _ _ _ (by decide)]; exact l2
          have p4 : (sS u2 15 (u.1 15 + b2 b)).1 15 = nI (ct (th m n) (j + 1)) := by rw [sS_at]; exact p3
          refine ⟨q_in e (by omega), fun c => ?_, fun c => ?_⟩
          · have hf : th m n j = false := by rw [← hb]; cases b with
              | false => rfl
              | true => exact absurd c (by decide)
            exact none' _ d4 (fun _ => rfl) l4 p4 (by rw [hf]; rfl)
          · have ht : th m n j = true := by rw [← hb]; cases b with
              | false => exact absurd rfl c
              | true => rfl
            rw [show (24 : Int32) + nI j = nI (24 + j) from nI_add 24 j]
            refine e_measure hI d4.1 hn d4.2.1 (24 + j) (by omega) (fun k hl hh => ⟨fun c => absurd c (by decide), fun _ => ?_⟩) (fun hh => ⟨fun _ => ?_, fun c => absurd rfl c⟩)
            · unfold pX0_drawo_b196
              have g8 : gA (mz m (24 + j) n k (sS u2 15 (u.1 15 + b2 b))) 13 (nI j) = fp m n j := by unfold gA; rw [q_cl e]; exact f2 j (by omega)
              rw [g8]
              refine ⟨q_in e (by omega), fun c => absurd c (by decide), fun _ => e_sum hl ?_⟩
              exact last _ d4.mz (Or.inr fun _ => rfl) l4 p4 _ (by unfold tot; rw [ht, hh]; rfl)
            · exact none' _ (d4.tS 10 _) (fun _ => rfl) l4 p4 (by rw [hh]; simp)
        exact ⟨fun c => main 0 c.symm, fun c => main 1 (by cases b with
          | false => exact absurd rfl c
          | true => rfl)⟩
      refine ⟨q_in e (by omega), fun c1 => ?_, fun c1 => ?_⟩
      · rw [gj] at c1
        unfold pX0_drawo_b143
        exact rest false (by unfold th; rw [fp_lt.mp c1]; rfl)
      · rw [gj] at c1
        have hon : on m n j = true := by
          cases hb : on m n j with
          | true => rfl
          | false => exact absurd (fp_lt.mpr hb) c1
        refine e_aheado d1.1 f1 j (by omega) (e_num d1.1 5 (by omega) ⟨fun c2 => ?_, fun c2 => ?_⟩)
        · unfold pX0_drawo_b143
          exact rest false (by unfold th; rw [decide_eq_false (Int32.not_lt.mpr c2)]; simp)
        · exact rest true (by unfold th; rw [decide_eq_true (Int32.not_le.mp c2), hon]; rfl)
  unfold pX0_drawo
  refine e_know hI hC n hn fun f hf => ?_
  have dk : Dzo m n z (sS (sS (sR z 7 f) 14 0) 15 0) := ⟨((hC.tR 7 f).tS 14 0).tS 15 0, hf, fun k h1 h2 => sR_ne _ _ _ _ (by omega)⟩
  unfold pX0_drawo_l18
  refine lp_intro (fun (a : Int32 × Int32) (u : Sg) => a.1 = nI (nJ m) ∧ ∃ j : Nat, j ≤ 24 ∧ a.2 = nI j ∧ Dzo m n z u ∧ (∀ i, i < j → u.2 13 i = fp m n i) ∧ u.1 14 = nI (ct (on m n) j) ∧ u.1 15 = 0) (fun a _ => 24 - a.2.toNatClampNeg) ?_ _ _ ⟨rfl, 0, by omega, rfl, dk, fun i hi => absurd hi (Nat.not_lt_zero i), rfl, rfl⟩
  rintro K ⟨a, b⟩ u ⟨ha, j, hj, hb, d1, f1, l1, p1⟩ ih
  simp only at ha hb ih ⊢
  subst ha hb
  have e := q_nI (n := j) (by omega)
  have e1 := q_nI (n := j + 1) (by omega)
  have eJ := q_nI (n := nJ m) (by omega)
  unfold pX0_drawo_b18
  refine ⟨fun c => ?_, fun c => ?_⟩
  · simp only [q_le, e, Int32.reduceToInt] at c
    have : j = 24 := by omega
    subst this
    exact L2 u d1 f1 l1 p1
  · simp only [q_le, e, Int32.reduceToInt] at c
    have hm : 24 - (nI j + 1).toNatClampNeg < 24 - (nI j).toNatClampNeg := by simp only [nI_1, q_cl e, q_cl e1]; omega
    have last : ∀ u3, Dzo m n z u3 → (∀ k, u3.2 k = u.2 k) → u3.1 14 = u.1 14 → u3.1 15 = 0 → ∀ (r : Int32) (b : Bool), r = fp m n j → b = on m n j → pX0_drawo_b66 (fun (x3 x4 : Int32) z => K (x3, x4) z) post (nI (nJ m)) (nI j) (b2 b) r (nI j) u3 := fun u3 d3 h3 l3 p3 r b hr hb => by
      unfold pX0_drawo_b66 pX0_drawo_b82
      have fin : K (nI (nJ m), nI j + 1) (sS (sA u3 13 (nI j) r) 14 (u3.1 14 + b2 b)) := by
        refine ih _ _ ⟨rfl, j + 1, by omega, nI_1 j, (d3.tA _ _ _).tS _ _, fun i hi => ?_, ?_, ?_⟩ hm
        · rw [sS_a, sA_at, q_cl e]
          by_cases hij : i = j
          · subst hij; rw [upd_at, hr]
          · rw [upd_ne _ _ _ _ hij, h3]; exact f1 i (by omega)
        · rw [sS_at, l3, l1, hb]
          simp only [ct]
          cases on m n j
          · show nI _ + 0 = _
            simp
          · show nI _ + 1 = _
            rw [nI_1]; simp
        · rw [sS_ne _ _ _ _ (by decide)]; exact p3
      refine ⟨q_in e (by omega), fun c => ?_, fun c => ?_⟩
      · rw [c] at fin; exact fin
      · have hb1 : b2 b = 1 := by cases b with
          | false => exact absurd rfl c
          | true => rfl
        rw [hb1] at fin; exact fin
    have none' : ∀ u3, Dzo m n z u3 → (∀ k, u3.2 k = u.2 k) → u3.1 14 = u.1 14 → u3.1 15 = 0 → on m n j = false → pX0_drawo_b44 (fun (x3 x4 : Int32) z => K (x3, x4) z) post (nI (nJ m)) (nI j) u3 := fun u3 d3 h3 l3 p3 ho => by
      unfold pX0_drawo_b44 pX0_drawo_b45
      exact ⟨fun _ => last u3 d3 h3 l3 p3 (-1) false (fp_off ho).symm ho.symm, fun c => absurd rfl c⟩
    refine ⟨fun c1 => ?_, fun c1 => ?_⟩
    · simp only [q_le, e, eJ] at c1
      refine none' u d1 (fun _ => rfl) rfl p1 ?_
      unfold on
      rw [decide_eq_false (by omega)]
      rfl
    · simp only [q_le, e, eJ] at c1
      have hjJ : j < nJ m := by omega
      refine e_measure hI d1.1 hn d1.2.1 j (by omega) (fun k hl hh => ⟨fun c => absurd c (by decide), fun _ => ?_⟩) (fun hh => ⟨fun _ => ?_, fun c => absurd rfl c⟩)
      · have ho : on m n j = true := by unfold on; rw [hh, decide_eq_true hjJ]; rfl
        unfold pX0_drawo_b45
        exact ⟨fun c => absurd c (by decide), fun _ => e_sum hl (last _ d1.mz (fun _ => rfl) rfl p1 _ true (fp_on ho).symm ho.symm)⟩
      · have ho : on m n j = false := by unfold on; rw [hh]; simp
        exact none' _ (d1.tS 10 _) (fun _ => rfl) rfl p1 ho
end BRDo
