def jq (j r : Int32) : Nat := 24 * r.toNatClampNeg + j.toNatClampNeg
/-- the first k from j on, of f many, that is meant -/
def srch (p : Nat → Bool) : Nat → Nat → Int32
  | 0, _ => -10000
  | f + 1, j => if p j then nI j else srch p f (j + 1)
def sbp (m : Sg) (n j : Nat) : Nat → Bool := fun o => th m n o && (decide (fp m n o < fp m n j) || (decide (fp m n o = fp m n j) && decide (j < o)))
def stp (m : Sg) (n : Nat) (i : Int32) : Nat → Bool := fun j => th m n j && decide (nI (ct (sbp m n j) 24) = i)
def part (m : Sg) (q n k : Nat) (w : Int32) : Int32 :=
  if w = 0 then pts m q n else if w = 1 then len m k else if w = 2 then sty m (lst m 2 q n) else if w = 3 then gat m k else if w = 4 then win m q n
  else if w = 5 then pts m q n - imax 0 (raw m q n k - gat m k) else pts m q n - imax 0 (raw m q n k - win m q n)
section ASK
variable {m z : Sg} {n : Nat}
theorem jq_ok (hI : iv m) {j r : Int32} (hj : isJ m j) (hr : isR r) : r * 24 + j = nI (jq j r) ∧ jq j r < 48 ∧ jq j r % 24 < nJ m ∧ j = nI j.toNatClampNeg ∧ j.toNatClampNeg < nJ m ∧ (r.toNatClampNeg = 0 ∨ r.toNatClampNeg = 1) := by
  have hJ := hI.2.1.2
  obtain ⟨a, rfl, ha⟩ := q_nn hj.1
  obtain ⟨b, rfl, hb⟩ := q_nn hr.1
  have h1 := hj.2
  have h2 := hr.2
  rw [ha] at h1
  rw [hb] at h2
  have ea : (nI a).toNatClampNeg = a := q_cl ha
  have eb : (nI b).toNatClampNeg = b := q_cl hb
  unfold jq
  rw [ea, eb]
  refine ⟨?_, by omega, by omega, rfl, by omega, by omega⟩
  rw [show (24 : Int32) = nI 24 from rfl, pk_mul, nI_add, Nat.mul_comm]
theorem isK_ok (hI : iv m) {e : Int32} (he : isK m e) : e = nI e.toNatClampNeg ∧ e.toNatClampNeg ≤ nE m := by
  obtain ⟨a, rfl, ha⟩ := q_nn he.1
  have h1 := he.2
  rw [ha] at h1
  rw [q_cl ha]
  exact ⟨rfl, by omega⟩
theorem isJ_ok {j : Int32} (hj : isJ m j) : j = nI j.toNatClampNeg ∧ j.toNatClampNeg < nJ m := by
  obtain ⟨a, rfl, ha⟩ := q_nn hj.1
  have h1 := hj.2
  rw [ha] at h1
  rw [q_cl ha]
  exact ⟨rfl, by omega⟩
abbrev okStrike (m : Sg) (j r b : Int32) : Prop := (isJ m j ∧ isR r) ∧ nE m < 200 ∧ ¬ b2 (stk m (jq j r) (nE m)) = b
theorem c_strike {post : Int32 → Sg → Prop} (hI : iv m) (hC : Cr m z) (j r b : Int32) (h1 : okStrike m j r b → ∀ z', Cr (addM m 3 (r * 24 + j) (cb b) 0 0 0 0) z' → post (m.1 11) z') (h0 : ¬ okStrike m j r b → ∀ z', Cr m z' → post (-10000) z') : pX4_strike j r b z post := by
  unfold pX4_strike pX4_strike_b16 pX4_strike_b80 pX4_jumpOf
  refine e_isJumper hI hC j (fun hj => ⟨fun c => absurd c (by decide), fun _ => ?_⟩) (fun hj => ⟨fun _ => h0 (fun q => hj q.1.1) _ hC, fun c => absurd rfl c⟩)
  refine e_isRound r (fun hr => ⟨fun _ => ?_, fun c => absurd c (by decide)⟩) (fun hr => ⟨fun c => absurd rfl c, fun _ => h0 (fun q => hr q.1.2) _ hC⟩)
  obtain ⟨hq, hq48, -⟩ := jq_ok hI hj hr
  rw [hq, hC.s 11, hI.2.2.1.1]
  refine e_know hI hC (nE m) (Nat.le_refl _) fun f hf => ?_
  have hC1 := hC.tR 7 f
  refine e_isStruck hI hC1 (Nat.le_refl _) hf _ hq48 ⟨fun c => ?_, fun c => h0 (fun q => q.2.2 c) _ hC1⟩
  have fin : ∀ x : Int32, x = cb b → pX1_add 3 (nI (jq j r)) x 0 0 0 0 (sR z 7 f) (fun r2 u1 => post r2 u1) := fun x hx => by
    subst hx
    rw [← hq]
    exact e_add hI hC1 _ _ _ _ _ _ _ (fun hE z' hz => h1 ⟨⟨hj, hr⟩, hE, c⟩ z' hz) (fun hE => h0 (fun q => hE q.2.1) _ hC1)
  exact ⟨fun c0 => fin 0 (by unfold cb; rw [if_pos c0]), fun c0 => fin 1 (by unfold cb; rw [if_neg c0])⟩
abbrev okPoints (m : Sg) (e j r w : Int32) : Prop := isK m e ∧ isJ m j ∧ isR r ∧ 0 ≤ w.toInt ∧ w.toInt ≤ 7
theorem c_points {post : Int32 → Sg → Prop} (hI : iv m) (hC : Cr m z) (e j r w : Int32)
    (h7 : okPoints m e j r w → w = 7 → ∀ z', Cr m z' → post (mea m (lst m 1 (jq j r) e.toNatClampNeg)) z')
    (hN : okPoints m e j r w → ¬ w = 7 → hs m (jq j r) e.toNatClampNeg = false → ∀ z', Cr m z' → post (-10000) z')
    (hP : okPoints m e j r w → ¬ w = 7 → ∀ k, lst m 0 (jq j r) e.toNatClampNeg = some k → hs m (jq j r) e.toNatClampNeg = true → ∀ z', Cr m z' → post (part m (jq j r) e.toNatClampNeg k w) z')
    (h0 : ¬ okPoints m e j r w → post (-10000) z) : pX4_points e j r w z post := by
  unfold pX4_points pX4_points_b36 pX4_points_b94 pX4_jumpOf
  refine e_isKnowing hI hC e (fun he => ⟨fun c => absurd c (by decide), fun _ => ?_⟩) (fun he => ⟨fun _ => h0 (fun q => he q.1), fun c => absurd rfl c⟩)
  refine e_isJumper hI hC j (fun hj => ⟨fun c => absurd c (by decide), fun _ => ?_⟩) (fun hj => ⟨fun _ => h0 (fun q => hj q.2.1), fun c => absurd rfl c⟩)
  refine e_isRound r (fun hr => ⟨fun c => absurd c (by decide), fun _ => ⟨fun c => h0 ?_, fun c1 => ⟨fun c2 => ?_, fun c => h0 ?_⟩⟩⟩) (fun hr => ⟨fun _ => h0 (fun q => hr q.2.2.1), fun c => absurd rfl c⟩)
  · simp only [q_lt, Int32.reduceToInt] at c; rintro ⟨-, -, -, h3, -⟩; omega
  · have hw : 0 ≤ w.toInt ∧ w.toInt ≤ 7 := by simp only [q_lt, q_le, Int32.reduceToInt] at c1 c2; omega
    have ok : okPoints m e j r w := ⟨he, hj, hr, hw⟩
    obtain ⟨hq, hq48, -⟩ := jq_ok hI hj hr
    obtain ⟨hn, hnE⟩ := isK_ok hI he
    rw [hq]
    generalize jq j r = q at *
    generalize hne : e.toNatClampNeg = n at *
    subst hn
    refine e_know hI hC n hnE fun f hf => ?_
    have hC1 := hC.tR 7 f
    refine e_measure hI hC1 hnE hf q hq48 (fun k hl hh => ?_) (fun hh => ?_)
    · have hC2 : Cr m (mz m q n k (sR z 7 f)) := mz_C hC1
      refine ⟨fun c7 => ⟨fun c => absurd c (by decide), fun _ => ?_⟩, fun c7 => h7 ok c7 _ hC2⟩
      have hp := hP ok c7 k hl hh _ hC2
      have hs6 := mz_sum (m := m) (z := sR z 7 f) hl
      unfold pX4_partOfPoints pX3_worthOf
      unfold part at hp
      refine ⟨fun c => e_sum hl ?_, fun d0 => ⟨fun c => ?_, fun d1 => ⟨fun c => ?_, fun d2 => ⟨fun c => ?_, fun d3 => ⟨fun c => ?_, fun d4 => ⟨fun c => e_sum hl ?_, fun d5 => ⟨fun c => e_sum hl ?_, fun d6 => ?_⟩⟩⟩⟩⟩⟩⟩
      · rw [if_pos c] at hp; exact hp
      · rw [if_neg d0, if_pos c] at hp; exact hp
      · rw [if_neg d0, if_neg d1, if_pos c] at hp; exact hp
      · rw [if_neg d0, if_neg d1, if_neg d2, if_pos c] at hp; exact hp
      · rw [if_neg d0, if_neg d1, if_neg d2, if_neg d3, if_pos c] at hp; exact hp
      · rw [if_neg d0, if_neg d1, if_neg d2, if_neg d3, if_neg d4, if_pos c] at hp; exact hp
      · rw [if_neg d0, if_neg d1, if_neg d2, if_neg d3, if_neg d4, if_neg d5] at hp; exact hp
      · exfalso
        simp only [q_eq, Int32.reduceToInt] at c7 d0 d1 d2 d3 d4 d5 d6
        omega
    · have hC2 := hC1.tS 10 (mea m (lst m 1 q n))
      exact ⟨fun c7 => ⟨fun _ => hN ok c7 hh _ hC2, fun c => absurd rfl c⟩, fun c7 => h7 ok c7 _ hC2⟩
  · simp only [q_le, Int32.reduceToInt] at c; rintro ⟨-, -, -, -, h3⟩; omega
theorem e_placeOf {post : Int32 → Sg → Prop} {u : Sg} (hP : ∀ i, i < 24 → u.2 11 i = pl m n i) (j : Nat) (hj : j < 24) (h : post (pl m n j) u) : pX0_placeOf (nI j) u post := by
  have e := q_nI (n := j) (by omega)
  unfold pX0_placeOf pX0_placeOf_b19 pX0_placeOf_b20
  refine ⟨fun c => ?_, fun _ => ⟨fun c => ?_, fun _ => ⟨q_in e hj, ?_⟩⟩⟩
  · simp only [q_lt, Int32.reduceToInt, e] at c; omega
  · simp only [q_le, Int32.reduceToInt, e] at c; omega
  · unfold gA; rw [q_cl e, hP j hj]; exact h
theorem e_placeOfo {post : Int32 → Sg → Prop} {u : Sg} (hP : ∀ i, i < 24 → u.2 16 i = pl m n i) (j : Nat) (hj : j < 24) (h : post (pl m n j) u) : pX0_placeOfo (nI j) u post := by
  have e := q_nI (n := j) (by omega)
  unfold pX0_placeOfo pX0_placeOfo_b19 pX0_placeOfo_b20
  refine ⟨fun c => ?_, fun _ => ⟨fun c => ?_, fun _ => ⟨q_in e hj, ?_⟩⟩⟩
  · simp only [q_lt, Int32.reduceToInt, e] at c; omega
  · simp only [q_le, Int32.reduceToInt, e] at c; omega
  · unfold gA; rw [q_cl e, hP j hj]; exact h
theorem e_totalOf {post : Int32 → Sg → Prop} {u : Sg} (hU : ∀ i, i < 24 → u.2 10 i = tot m n i) (j : Nat) (hj : j < 24) (h : post (tot m n j) u) : pX0_totalOf (nI j) u post := by
  have e := q_nI (n := j) (by omega)
  unfold pX0_totalOf pX0_totalOf_b19 pX0_totalOf_b20
  refine ⟨fun c => ?_, fun _ => ⟨fun c => ?_, fun _ => ⟨q_in e hj, ?_⟩⟩⟩
  · simp only [q_lt, Int32.reduceToInt, e] at c; omega
  · simp only [q_le, Int32.reduceToInt, e] at c; omega
  · unfold gA; rw [q_cl e, hU j hj]; exact h
theorem e_isThrough {post : Int32 → Sg → Prop} {u : Sg} (hT : ∀ i, i < 24 → u.2 9 i = b2 (th m n i)) (j : Nat) (hj : j < 24) (h : post (b2 (th m n j)) u) : pX0_isThrough (nI j) u post := by
  have e := q_nI (n := j) (by omega)
  have g : gA u 9 (nI j) = b2 (th m n j) := by unfold gA; rw [q_cl e, hT j hj]
  unfold pX0_isThrough pX0_isThrough_b23 pX0_isThrough_b24
  rw [g]
  refine ⟨fun c => ?_, fun _ => ⟨fun c => ?_, fun _ => ⟨q_in e hj, fun c => ⟨Or.inl rfl, ?_⟩, fun c => ⟨Or.inr rfl, ?_⟩⟩⟩⟩
  · simp only [q_lt, Int32.reduceToInt, e] at c; omega
  · simp only [q_le, Int32.reduceToInt, e] at c; omega
  · rw [c] at h; exact h
  · cases hb : th m n j with
    | true => rw [hb] at h; exact h
    | false => rw [hb] at c; exact absurd rfl c
theorem pl_on (j : Nat) : (on m n j = true → 0 < pl m n j) ∧ (on m n j = false → pl m n j = 0) := by
  have := ct_le (be m n j) 24
  refine ⟨fun h => ?_, fun h => by unfold pl; rw [h]; rfl⟩
  unfold pl
  rw [if_pos h, q_lt, q_nI (by omega)]
  show (0 : Int) < _
  omega
theorem e_isListed {post : Int32 → Sg → Prop} {u : Sg} (hP : ∀ i, i < 24 → u.2 11 i = pl m n i) (j : Nat) (hj : j < 24) (h : post (b2 (on m n j)) u) : pX0_isListed (nI j) u post := by
  unfold pX0_isListed pX0_isListed_b13
  refine e_placeOf hP j hj ⟨fun c => ⟨Or.inl rfl, ?_⟩, fun c => ⟨Or.inr rfl, ?_⟩⟩
  · cases hb : on m n j with
    | true => exact absurd ((pl_on j).1 hb) (Int32.not_lt.mpr c)
    | false => rw [hb] at h; exact h
  · cases hb : on m n j with
    | true => rw [hb] at h; exact h
    | false => exact absurd (by rw [(pl_on j).2 hb]; decide) c
abbrev okTold (m : Sg) (e w : Int32) : Prop := isK m e ∧ 0 ≤ w.toInt ∧ w.toInt ≤ 2
theorem c_told {post : Int32 → Sg → Prop} (hI : iv m) (hC : Cr m z) (e j w : Int32)
    (hn : ¬ isJ m j → post (-10000) z)
    (h3 : isJ m j → w = 3 → post (m.2 18 j.toNatClampNeg) z) (h4 : isJ m j → w = 4 → post (m.2 19 j.toNatClampNeg) z)
    (h0 : isJ m j → ¬ w = 3 → ¬ w = 4 → ¬ okTold m e w → post (-10000) z)
    (hT : isJ m j → okTold m e w → w = 0 → ∀ z', Cr m z' → post (b2 (th m e.toNatClampNeg j.toNatClampNeg)) z')
    (hO : isJ m j → okTold m e w → ¬ w = 0 → on m e.toNatClampNeg j.toNatClampNeg = false → ∀ z', Cr m z' → post (-10000) z')
    (h1 : isJ m j → okTold m e w → w = 1 → on m e.toNatClampNeg j.toNatClampNeg = true → ∀ z', Cr m z' → post (tot m e.toNatClampNeg j.toNatClampNeg) z')
    (h2 : isJ m j → okTold m e w → w = 2 → on m e.toNatClampNeg j.toNatClampNeg = true → ∀ z', Cr m z' → post (pl m e.toNatClampNeg j.toNatClampNeg) z') : pX4_told e j w z post := by
  have hJ := hI.2.1.2
  unfold pX4_told pX4_told_b133 pX4_told_b93 pX4_told_b53
  refine e_isJumper hI hC j (fun hj => ⟨fun _ => ?_, fun c => absurd c (by decide)⟩) (fun hj => ⟨fun c => absurd rfl c, fun _ => hn hj⟩)
  obtain ⟨ej, hjJ⟩ := isJ_ok hj
  have e1 := q_nI (n := j.toNatClampNeg) (by omega)
  have ej2 : j.toInt = (j.toNatClampNeg : Int) := by rw [← ej] at e1; exact e1
  refine ⟨fun c3 => ⟨fun c4 => ?_, fun c4 => ⟨q_in ej2 (by omega), ?_⟩⟩, fun c3 => ⟨q_in ej2 (by omega), ?_⟩⟩
  · refine e_isKnowing hI hC e (fun he => ⟨fun c => absurd c (by decide), fun _ => ⟨fun c => h0 hj c3 c4 ?_, fun c1 => ⟨fun c2 => ?_, fun c => h0 hj c3 c4 ?_⟩⟩⟩) (fun he => ⟨fun _ => h0 hj c3 c4 (fun q => he q.1), fun c => absurd rfl c⟩)
    · simp only [q_lt, Int32.reduceToInt] at c; rintro ⟨-, h3, -⟩; omega
    · have hw : 0 ≤ w.toInt ∧ w.toInt ≤ 2 := by simp only [q_lt, q_le, Int32.reduceToInt] at c1 c2; omega
      have ok : okTold m e w := ⟨he, hw⟩
      obtain ⟨hn, hnE⟩ := isK_ok hI he
      rw [ej, hC.s 1, hI.2.1.1]
      generalize e.toNatClampNeg = n at *
      generalize j.toNatClampNeg = k at *
      subst hn
      refine e_draw hI hC hnE fun u hB => ?_
      have hC1 := hB.1.1
      refine ⟨fun cw => e_isListed hB.2.2.2.2.1 k (by omega) ?_, fun cw => e_isThrough hB.2.2.1 k (by omega) ?_⟩
      · cases hb : on m n k with
        | false => exact ⟨fun c => absurd rfl c, fun _ => hO hj ok cw hb _ hC1⟩
        | true =>
          refine ⟨fun _ => ⟨fun cw1 => e_placeOf hB.2.2.2.2.1 k (by omega) (h2 hj ok ?_ hb _ hC1), fun cw1 => e_totalOf hB.2.2.2.1 k (by omega) (h1 hj ok cw1 hb _ hC1)⟩, fun c => absurd c (by decide)⟩
          simp only [q_eq, Int32.reduceToInt] at cw cw1 ⊢
          omega
      · have hp := hT hj ok cw _ hC1
        cases hb : th m n k with
        | true => rw [hb] at hp; exact ⟨fun c => absurd c (by decide), fun _ => hp⟩
        | false => rw [hb] at hp; exact ⟨fun _ => hp, fun c => absurd rfl c⟩
    · simp only [q_le, Int32.reduceToInt] at c; rintro ⟨-, -, h3⟩; omega
  · unfold gA; rw [hC.a 19]; exact h4 hj c4
  · unfold gA; rw [hC.a 18]; exact h3 hj c3
theorem e_isPosition {post : Int32 → Sg → Prop} {u : Sg} (hL : u.1 12 = nI (ct (on m n) 24)) (i : Int32) (h1 : 0 ≤ i.toInt ∧ i.toInt < (ct (on m n) 24 : Int) → post 1 u) (h0 : ¬ (0 ≤ i.toInt ∧ i.toInt < (ct (on m n) 24 : Int)) → post 0 u) : pX0_isPosition i u post := by
  have := ct_le (on m n) 24
  have eL := q_nI (n := ct (on m n) 24) (by omega)
  unfold pX0_isPosition pX0_isPosition_b16 pX0_isPosition_b17
  rw [hL]
  refine ⟨fun c => ⟨Or.inl rfl, h0 ?_⟩, fun c => ⟨fun d => ⟨Or.inl rfl, h0 ?_⟩, fun d => ⟨Or.inr rfl, h1 ?_⟩⟩⟩ <;> simp only [q_lt, q_le, eL, Int32.reduceToInt] at * <;> omega
theorem e_jumperAt {post : Int32 → Sg → Prop} {u : Sg} {f : Nat → Int32} (hO : u.2 12 = od m n f 24) (i : Nat) (hi : i < 24) (h : post (od m n f 24 i) u) : pX0_jumperAt (nI i) u post := by
  have e := q_nI (n := i) (by omega)
  unfold pX0_jumperAt pX0_jumperAt_b19 pX0_jumperAt_b22
  refine ⟨fun c => ?_, fun _ => ⟨fun c => ?_, fun _ => ⟨q_in e hi, ?_⟩⟩⟩
  · simp only [q_lt, Int32.reduceToInt, e] at c; omega
  · simp only [q_le, Int32.reduceToInt, e] at c; omega
  · unfold gA; rw [q_cl e, hO]; exact h
theorem c_list {post : Int32 → Sg → Prop} (hI : iv m) (hC : Cr m z) (e i : Int32) (h0 : ¬ isK m e → post (-10000) z)
    (hN : isK m e → ¬ (0 ≤ i.toInt ∧ i.toInt < (ct (on m e.toNatClampNeg) 24 : Int)) → ∀ z', Cr m z' → post (-10000) z')
    (h1 : isK m e → 0 ≤ i.toInt ∧ i.toInt < (ct (on m e.toNatClampNeg) 24 : Int) → ∀ f z', Cr m z' → post (od m e.toNatClampNeg f 24 i.toNatClampNeg) z') : pX4_list e i z post := by
  unfold pX4_list pX4_list_b53
  refine e_isKnowing hI hC e (fun he => ⟨fun _ => ?_, fun c => absurd c (by decide)⟩) (fun he => ⟨fun c => absurd rfl c, fun _ => h0 he⟩)
  obtain ⟨hn, hnE⟩ := isK_ok hI he
  rw [hC.s 1, hI.2.1.1]
  generalize e.toNatClampNeg = n at *
  subst hn
  refine e_draw hI hC hnE fun u hB => ?_
  have hct := ct_le (on m n) 24
  obtain ⟨f, hO⟩ := hB.2.2.2.2.2.1
  refine e_isPosition hB.2.2.2.2.2.2.1 i (fun hi => ⟨fun c => absurd c (by decide), fun _ => ?_⟩) (fun hi => ⟨fun _ => hN he hi _ hB.1.1, fun c => absurd rfl c⟩)
  obtain ⟨k, rfl, hk⟩ := q_nn hi.1
  have hp := h1 he hi f u hB.1.1
  rw [q_cl hk] at hp
  have hi2 := hi.2
  rw [hk] at hi2
  exact e_jumperAt hO k (by omega) hp
theorem e_startersBefore {post : Int32 → Sg → Prop} {u : Sg} (hF : ∀ i, i < 24 → u.2 8 i = fp m n i) (hT : ∀ i, i < 24 → u.2 9 i = b2 (th m n i)) (j : Nat) (hj : j < 24) (h : post (nI (ct (sbp m n j) 24)) u) : pX0_startersBefore (nI j) u post := by
  have ej := q_nI (n := j) (by omega)
  have gj : gA u 8 (nI j) = fp m n j := by unfold gA; rw [q_cl ej, hF j hj]
  unfold pX0_startersBefore pX0_startersBefore_l4
  refine lp_intro (fun (a : Int32 × Int32 × Int32) (w : Sg) => w = u ∧ a.1 = nI j ∧ ∃ o : Nat, o ≤ 24 ∧ a.2.2 = nI o ∧ a.2.1 = nI (ct (sbp m n j) o)) (fun a _ => 24 - a.2.2.toNatClampNeg) ?_ _ _ ⟨rfl, rfl, 0, by omega, rfl, rfl⟩
  rintro K ⟨a, b, d⟩ w ⟨rfl, ha, o, ho, hd, hb⟩ ih
  simp only at ha hb hd ih ⊢
  subst ha hb hd
  have e := q_nI (n := o) (by omega)
  have e1 := q_nI (n := o + 1) (by omega)
  have go : o < 24 → ∀ r : Bool, r = sbp m n j o → K (nI j, nI (ct (sbp m n j) o) + b2 r, nI o + 1) w := fun ho9 r hr => by
    refine ih _ _ ⟨rfl, rfl, o + 1, by omega, nI_1 o, ?_⟩ (by simp only [nI_1, q_cl e, q_cl e1]; omega)
    simp only [ct]
    subst hr
    cases sbp m n j o
    · show nI _ + 0 = _
      simp
    · show nI _ + 1 = _
      rw [nI_1]; simp
  unfold pX0_startersBefore_b4
  refine ⟨fun c => ?_, fun c => ⟨q_in e (by simp only [q_le, e, Int32.reduceToInt] at c; omega), ?_⟩⟩
  · simp only [q_le, e, Int32.reduceToInt] at c
    have : o = 24 := by omega
    subst this
    exact h
  · simp only [q_le, e, Int32.reduceToInt] at c
    have g1 : gA w 8 (nI o) = fp m n o := by unfold gA; rw [q_cl e, hF o (by omega)]
    have g2 : gA w 9 (nI o) = b2 (th m n o) := by unfold gA; rw [q_cl e, hT o (by omega)]
    rw [g1, g2, gj]
    have fT : sbp m n j o = true → pX0_startersBefore_b54 (fun (x1 x2 x3 : Int32) z => K (x1, x2, x3) z) post (nI j) (nI (ct (sbp m n j) o)) (nI o) w := fun hr => by
      unfold pX0_startersBefore_b54 pX0_startersBefore_b59 pX0_startersBefore_b72
      exact ⟨fun c => absurd c (by decide), fun _ v hv => hv ▸ go (by omega) true hr.symm⟩
    have fF : sbp m n j o = false → pX0_startersBefore_b58 (fun (x1 x2 x3 : Int32) z => K (x1, x2, x3) z) post (nI j) (nI (ct (sbp m n j) o)) (nI o) w := fun hr => by
      unfold pX0_startersBefore_b58 pX0_startersBefore_b59 pX0_startersBefore_b72
      exact ⟨fun _ v hv => hv ▸ go (by omega) false hr.symm, fun c => absurd rfl c⟩
    refine ⟨fun c1 => fF ?_, fun c1 => ⟨q_in e (by omega), q_in ej hj, fun c2 => fT ?_, fun c2 => ⟨q_in e (by omega), q_in ej hj, fun c3 => fF ?_, fun c3 => ⟨fun c4 => fF ?_, fun c4 => fT ?_⟩⟩⟩⟩
    · have : th m n o = false := by cases hb : th m n o with
        | false => rfl
        | true => rw [hb] at c1; exact absurd c1 (by decide)
      simp [sbp, this]
    all_goals have ht : th m n o = true := by cases hb : th m n o with
        | true => rfl
        | false => rw [hb] at c1; exact absurd rfl c1
    · simp [sbp, ht, c2]
    · simp [sbp, c2, c3]
    · simp only [q_le, e, ej] at c4
      have : ¬ j < o := by omega
      simp [sbp, c2, this]
    · simp only [q_le, e, ej] at c4
      have : j < o := by omega
      simp [sbp, ht, c3, this]
theorem e_starterAt {post : Int32 → Sg → Prop} {u : Sg} (hF : ∀ i, i < 24 → u.2 8 i = fp m n i) (hT : ∀ i, i < 24 → u.2 9 i = b2 (th m n i)) (i : Int32) (h : post (srch (stp m n i) 24 0) u) : pX0_starterAt i u post := by
  unfold pX0_starterAt pX0_starterAt_l2
  refine lp_intro (fun (a : Int32 × Int32) (w : Sg) => w = u ∧ a.1 = i ∧ ∃ j : Nat, j ≤ 24 ∧ a.2 = nI j ∧ srch (stp m n i) 24 0 = srch (stp m n i) (24 - j) j) (fun a _ => 24 - a.2.toNatClampNeg) ?_ _ _ ⟨rfl, rfl, 0, by omega, rfl, rfl⟩
  rintro K ⟨a, b⟩ w ⟨rfl, ha, j, hj, hb, hs⟩ ih
  simp only at ha hb ih ⊢
  subst ha hb
  have e := q_nI (n := j) (by omega)
  have e1 := q_nI (n := j + 1) (by omega)
  unfold pX0_starterAt_b2 pX0_starterAt_b28
  refine ⟨fun c => ?_, fun c => ⟨q_in e (by simp only [q_le, e, Int32.reduceToInt] at c; omega), ?_⟩⟩
  · simp only [q_le, e, Int32.reduceToInt] at c
    have : j = 24 := by omega
    subst this
    rw [hs] at h
    exact h
  · simp only [q_le, e, Int32.reduceToInt] at c
    have g2 : gA w 9 (nI j) = b2 (th m n j) := by unfold gA; rw [q_cl e, hT j (by omega)]
    have st : srch (stp m n a) (24 - j) j = if stp m n a j then nI j else srch (stp m n a) (24 - (j + 1)) (j + 1) := by
      rw [show 24 - j = (24 - (j + 1)) + 1 by omega]
      rfl
    have nx : stp m n a j = false → K (a, nI j + 1) w := fun hq =>
      ih _ _ ⟨rfl, rfl, j + 1, by omega, nI_1 j, by rw [hs, st, hq]; rfl⟩ (by simp only [nI_1, q_cl e, q_cl e1]; omega)
    rw [g2]
    refine ⟨fun c1 => nx ?_, fun c1 => e_startersBefore hF hT j (by omega) ⟨fun c2 => nx ?_, fun c2 => ?_⟩⟩
    · have : th m n j = false := by cases hb : th m n j with
        | false => rfl
        | true => rw [hb] at c1; exact absurd c1 (by decide)
      simp [stp, this]
    · simp [stp, c2]
    · have ht : th m n j = true := by cases hb : th m n j with
        | true => rfl
        | false => rw [hb] at c1; exact absurd rfl c1
      have : stp m n a j = true := by simp [stp, ht, c2]
      rw [hs, st, this] at h
      exact h
theorem c_start {post : Int32 → Sg → Prop} (hI : iv m) (hC : Cr m z) (e r i : Int32) (h0 : ¬ (isK m e ∧ isR r) → post (-10000) z)
    (hj : isK m e ∧ isR r → r = 0 → isJ m i → post i z) (hn : isK m e ∧ isR r → r = 0 → ¬ isJ m i → post (-10000) z)
    (h1 : isK m e ∧ isR r → ¬ r = 0 → ∀ z', Cr m z' → post (srch (stp m e.toNatClampNeg i) 24 0) z') : pX4_start e r i z post := by
  unfold pX4_start pX4_start_b16 pX4_start_b39
  refine e_isKnowing hI hC e (fun he => ⟨fun c => absurd c (by decide), fun _ => ?_⟩) (fun he => ⟨fun _ => h0 (fun q => he q.1), fun c => absurd rfl c⟩)
  refine e_isRound r (fun hr => ⟨fun _ => ⟨fun c0 => ?_, fun c0 => ?_⟩, fun c => absurd c (by decide)⟩) (fun hr => ⟨fun c => absurd rfl c, fun _ => h0 (fun q => hr q.2)⟩)
  · have hp := h1 ⟨he, hr⟩ c0
    obtain ⟨hn, hnE⟩ := isK_ok hI he
    rw [hC.s 1, hI.2.1.1]
    generalize e.toNatClampNeg = n at *
    subst hn
    exact e_draw hI hC hnE fun u hB => e_starterAt hB.2.1 hB.2.2.1 i (hp u hB.1.1)
  · exact e_isJumper hI hC i (fun q => ⟨fun c => absurd c (by decide), fun _ => hj ⟨he, hr⟩ c0 q⟩) (fun q => ⟨fun _ => hn ⟨he, hr⟩ c0 q, fun c => absurd rfl c⟩)
end ASK
