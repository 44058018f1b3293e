def v5 (a b c d e : Int32) (i : Nat) : Int32 := if i = 0 then a else if i = 1 then b else if i = 2 then c else if i = 3 then d else e
def w5 (f : Nat → Int32) (k : Nat) (a b c d e : Int32) : Nat → Int32 := upd (upd (upd (upd (upd f (5 * k) a) (5 * k + 1) b) (5 * k + 2) c) (5 * k + 3) d) (5 * k + 4) e
theorem w5_at (f : Nat → Int32) (k : Nat) (a b c d e : Int32) (i : Nat) (hi : i < 5) : w5 f k a b c d e (5 * k + i) = v5 a b c d e i := by
  unfold w5 v5
  rcases (show i = 0 ∨ i = 1 ∨ i = 2 ∨ i = 3 ∨ i = 4 by omega) with rfl | rfl | rfl | rfl | rfl <;> simp [upd]
theorem w5_ne (f : Nat → Int32) (k : Nat) (a b c d e : Int32) (l i : Nat) (hl : l ≠ k) (hi : i < 5) : w5 f k a b c d e (5 * l + i) = f (5 * l + i) := by
  unfold w5
  rw [upd_ne _ _ _ _ (by omega), upd_ne _ _ _ _ (by omega), upd_ne _ _ _ _ (by omega), upd_ne _ _ _ _ (by omega), upd_ne _ _ _ _ (by omega)]
section TEL
variable {m y : Sg} {n : Nat}
theorem add_E (hI : iv m) (hE : nE m < 200) (s q a b c d e : Int32) : nE (addM m s q a b c d e) = nE m + 1 ∧ (addM m s q a b c d e).1 11 = nI (nE m + 1) := by
  have h : (addM m s q a b c d e).1 11 = nI (nE m + 1) := by
    show (sS _ 11 (m.1 11 + 1)).1 11 = _
    rw [sS_at, hI.2.2.1.1, nI_1]
  unfold nE
  rw [h]
  exact ⟨q_cl (q_nI (by omega)), rfl⟩
theorem add_s (s q a b c d e : Int32) (k : Nat) (hk : k ≠ 11) : (addM m s q a b c d e).1 k = m.1 k := by
  unfold addM
  rw [sS_ne _ _ _ _ hk]
  rfl
theorem add_3 (hI : iv m) (s q a b c d e : Int32) : (addM m s q a b c d e).2 3 = upd (m.2 3) (nE m) s := by
  have hE := hI.2.2.1.2
  have e1 := q_nI (n := nE m) (by omega)
  unfold addM
  rw [sS_a, sA_ne _ _ _ _ _ (by decide), sA_ne _ _ _ _ _ (by decide), sA_ne _ _ _ _ _ (by decide), sA_ne _ _ _ _ _ (by decide), sA_ne _ _ _ _ _ (by decide), sA_ne _ _ _ _ _ (by decide), sA_at, hI.2.2.1.1, q_cl e1]
theorem add_4 (hI : iv m) (s q a b c d e : Int32) : (addM m s q a b c d e).2 4 = upd (m.2 4) (nE m) q := by
  have hE := hI.2.2.1.2
  have e1 := q_nI (n := nE m) (by omega)
  unfold addM
  rw [sS_a, sA_ne _ _ _ _ _ (by decide), sA_ne _ _ _ _ _ (by decide), sA_ne _ _ _ _ _ (by decide), sA_ne _ _ _ _ _ (by decide), sA_ne _ _ _ _ _ (by decide), sA_at, sA_ne _ _ _ _ _ (by decide), hI.2.2.1.1, q_cl e1]
theorem add_5 (hI : iv m) (hE : nE m < 200) (s q a b c d e : Int32) : (addM m s q a b c d e).2 5 = w5 (m.2 5) (nE m) a b c d e := by
  have h5 : ∀ i : Nat, i < 5 → (m.1 11 * 5 + nI i).toNatClampNeg = 5 * nE m + i := fun i hi => by
    rw [hI.2.2.1.1, show (5 : Int32) = nI 5 from rfl, pk_mul, nI_add, q_cl (q_nI (by omega))]; omega
  have h0 : (m.1 11 * 5).toNatClampNeg = 5 * nE m := by have := h5 0 (by omega); rw [nI_0, Int32.add_zero] at this; exact this
  have h1 : (m.1 11 * 5 + 1).toNatClampNeg = 5 * nE m + 1 := h5 1 (by omega)
  have h2 : (m.1 11 * 5 + 2).toNatClampNeg = 5 * nE m + 2 := h5 2 (by omega)
  have h3 : (m.1 11 * 5 + 3).toNatClampNeg = 5 * nE m + 3 := h5 3 (by omega)
  have h4 : (m.1 11 * 5 + 4).toNatClampNeg = 5 * nE m + 4 := h5 4 (by omega)
  unfold addM w5
  rw [sS_a, sA_at, sA_at, sA_at, sA_at, sA_at, sA_ne _ _ _ _ _ (by decide), sA_ne _ _ _ _ _ (by decide), h0, h1, h2, h3, h4]
theorem add_o (s q a b c d e : Int32) (k : Nat) (h3 : k ≠ 3) (h4 : k ≠ 4) (h5 : k ≠ 5) : (addM m s q a b c d e).2 k = m.2 k := by
  unfold addM
  rw [sS_a, sA_ne _ _ _ _ _ h5, sA_ne _ _ _ _ _ h5, sA_ne _ _ _ _ _ h5, sA_ne _ _ _ _ _ h5, sA_ne _ _ _ _ _ h5, sA_ne _ _ _ _ _ h4, sA_ne _ _ _ _ _ h3]
theorem add_vl (hI : iv m) (hE : nE m < 200) (s q a b c d e : Int32) (k i : Nat) (hi : i < 5) : vl (addM m s q a b c d e) k i = if k = nE m then v5 a b c d e i else vl m k i := by
  unfold vl
  rw [add_5 hI hE]
  by_cases h : k = nE m
  · subst h; rw [w5_at _ _ _ _ _ _ _ _ hi, if_pos rfl]
  · rw [w5_ne _ _ _ _ _ _ _ _ _ h hi, if_neg h]
/-- what a new entry of a sort may hold -/
def nOk (s : Nat) (a b c d e : Int32) : Prop :=
  (s = 0 → (0 ≤ a.toInt ∧ a.toInt ≤ 600) ∧ (1 ≤ b.toInt ∧ b.toInt ≤ 50) ∧ (0 ≤ c.toInt ∧ c.toInt ≤ 1)) ∧
  (s = 1 → isW a ∧ isW b ∧ isW c ∧ isW d ∧ isW e) ∧ (s = 2 → isM a ∧ isM b ∧ isM c ∧ isM d ∧ isM e)
theorem iv_add (hI : iv m) (hE : nE m < 200) (s q : Nat) (a b c d e : Int32) (hs : s < 4) (hq : q < 48) (hqJ : q % 24 < nJ m) (ho : nOk s a b c d e) : iv (addM m (nI s) (nI q) a b c d e) := by
  have hJ : nJ (addM m (nI s) (nI q) a b c d e) = nJ m := by unfold nJ; rw [add_s _ _ _ _ _ _ _ 1 (by decide)]
  have hT : nT (addM m (nI s) (nI q) a b c d e) = nT m := by unfold nT; rw [add_s _ _ _ _ _ _ _ 0 (by decide)]
  obtain ⟨hEE, hE1⟩ := add_E hI hE (nI s) (nI q) a b c d e
  refine ⟨?_, ?_, ?_, ?_, ?_, ?_, ?_, ?_⟩
  · rw [hT, add_s _ _ _ _ _ _ _ 0 (by decide)]; exact hI.1
  · rw [hJ, add_s _ _ _ _ _ _ _ 1 (by decide)]; exact hI.2.1
  · rw [hEE]; exact ⟨hE1, by omega⟩
  · rw [add_s _ _ _ _ _ _ _ 5 (by decide)]; exact hI.2.2.2.1
  · rw [add_o _ _ _ _ _ _ _ 1 (by decide) (by decide) (by decide)]; exact hI.2.2.2.2.1
  · rw [add_o _ _ _ _ _ _ _ 6 (by decide) (by decide) (by decide)]; exact hI.2.2.2.2.2.1
  · intro k hk
    rw [hEE] at hk
    rw [hJ, add_3 hI, add_4 hI]
    have hv := fun i hi => add_vl hI hE (nI s) (nI q) a b c d e k i hi
    by_cases h : k = nE m
    · subst h
      refine ⟨s, q, hs, hq, hqJ, upd_at _ _ _, upd_at _ _ _, ?_⟩
      have hv : ∀ i, i < 5 → vl (addM m (nI s) (nI q) a b c d e) (nE m) i = v5 a b c d e i := fun i hi => by rw [hv i hi, if_pos rfl]
      refine ⟨fun h0 => ?_, fun h1 i hi => ?_, fun h2 i hi => ?_⟩
      · rw [hv 0 (by omega), hv 1 (by omega), hv 2 (by omega)]
        exact ho.1 h0
      · rw [hv i hi]
        obtain ⟨g0, g1, g2, g3, g4⟩ := ho.2.1 h1
        rcases (show i = 0 ∨ i = 1 ∨ i = 2 ∨ i = 3 ∨ i = 4 by omega) with rfl | rfl | rfl | rfl | rfl
        · exact g0
        · exact g1
        · exact g2
        · exact g3
        · exact g4
      · rw [hv i hi]
        obtain ⟨g0, g1, g2, g3, g4⟩ := ho.2.2 h2
        rcases (show i = 0 ∨ i = 1 ∨ i = 2 ∨ i = 3 ∨ i = 4 by omega) with rfl | rfl | rfl | rfl | rfl
        · exact g0
        · exact g1
        · exact g2
        · exact g3
        · exact g4
    · obtain ⟨s', q', h1, h2, h3, h4, h5, h6⟩ := hI.2.2.2.2.2.2.1 k (by omega)
      have hv : ∀ i, i < 5 → vl (addM m (nI s) (nI q) a b c d e) k i = vl m k i := fun i hi => by rw [hv i hi, if_neg h]
      refine ⟨s', q', h1, h2, h3, by rw [upd_ne _ _ _ _ h]; exact h4, by rw [upd_ne _ _ _ _ h]; exact h5, fun h0 => ?_, fun h1 i hi => ?_, fun h2 i hi => ?_⟩
      · rw [hv 0 (by omega), hv 1 (by omega), hv 2 (by omega)]
        exact h6.1 h0
      · rw [hv i hi]; exact h6.2.1 h1 i hi
      · rw [hv i hi]; exact h6.2.2 h2 i hi
  · rw [add_s _ _ _ _ _ _ _ 3 (by decide)]; exact hI.2.2.2.2.2.2.2
theorem g_tells {post : Int32 → Sg → Prop} (hI : iv m) (hM : Mr m y) (hE : nE m < 200) (s q : Nat) (a b c d e : Int32) (hq : q < 48) (h : ∀ y', Mr (addM m (nI s) (nI q) a b c d e) y' → post (m.1 11) y') : pX5_tells (nI s) (nI (jm q)) a b c d e y post := by
  have e1 := q_nI (n := nE m) (by omega)
  have h5 : ∀ i : Nat, i < 5 → 5 * nI (nE m) + nI i = nI (5 * nE m + i) := fun i hi => by
    rw [show (5 : Int32) = nI 5 from rfl, pk_mul, nI_add]
  have h0 : 5 * nI (nE m) = nI (5 * nE m) := by have := h5 0 (by omega); rw [nI_0, Int32.add_zero] at this; exact this
  have h1 : 5 * nI (nE m) + 1 = nI (5 * nE m + 1) := h5 1 (by omega)
  have h2 : 5 * nI (nE m) + 2 = nI (5 * nE m + 2) := h5 2 (by omega)
  have h3 : 5 * nI (nE m) + 3 = nI (5 * nE m + 3) := h5 3 (by omega)
  have h4 : 5 * nI (nE m) + 4 = nI (5 * nE m + 4) := h5 4 (by omega)
  have x0 := q_nI (n := 5 * nE m) (by omega)
  have x1 := q_nI (n := 5 * nE m + 1) (by omega)
  have x2 := q_nI (n := 5 * nE m + 2) (by omega)
  have x3 := q_nI (n := 5 * nE m + 3) (by omega)
  have x4 := q_nI (n := 5 * nE m + 4) (by omega)
  have y2 : y.1 2 = nI (nE m) := by rw [hM.1.2.2.1]; exact hI.2.2.1.1
  unfold pX5_tells
  rw [y2]
  refine ⟨q_in e1 hE, q_in e1 hE, fun w4 hw4 => ?_⟩
  have y4 : w4.1 2 = nI (nE m) := by rw [hw4]; exact y2
  rw [y4, h1, h2, h0]
  refine ⟨q_in x0 (by omega), q_in x1 (by omega), fun w7 hw7 => ?_⟩
  have y7 : w7.1 2 = nI (nE m) := by rw [hw7]; exact y4
  rw [y7, h3, h4]
  refine ⟨q_in x2 (by omega), q_in x3 (by omega), fun w10 hw10 => ⟨q_in x4 (by omega), ?_⟩⟩
  have y10 : w10.1 2 = nI (nE m) := by rw [hw10]; exact y7
  rw [y10, show nI (nE m) + 1 - 1 = m.1 11 by rw [hI.2.2.1.1, nI_1, nI_pred]]
  refine h _ ?_
  obtain ⟨hEE, hE1⟩ := add_E hI hE (nI s) (nI q) a b c d e
  have hT : nT (addM m (nI s) (nI q) a b c d e) = nT m := by unfold nT; rw [add_s _ _ _ _ _ _ _ 0 (by decide)]
  have hs : ∀ k, k ≠ 2 → (sS (sA w10 8 (nI (5 * nE m + 4)) e) 2 (nI (nE m) + 1)).1 k = y.1 k := fun k hk => by
    rw [sS_ne _ _ _ _ hk, hw10, hw7, hw4]; rfl
  have ha : ∀ k, k ≠ 6 → k ≠ 7 → k ≠ 8 → (sS (sA w10 8 (nI (5 * nE m + 4)) e) 2 (nI (nE m) + 1)).2 k = y.2 k := fun k h6 h7 h8 => by
    rw [sS_a, sA_ne _ _ _ _ _ h8, hw10, sA_ne _ _ _ _ _ h8, sA_ne _ _ _ _ _ h8, hw7, sA_ne _ _ _ _ _ h8, sA_ne _ _ _ _ _ h8, hw4, sA_ne _ _ _ _ _ h7, sA_ne _ _ _ _ _ h6]
  have a6 : (sS (sA w10 8 (nI (5 * nE m + 4)) e) 2 (nI (nE m) + 1)).2 6 = upd (y.2 6) (nE m) (nI s) := by
    rw [sS_a, sA_ne _ _ _ _ _ (by decide), hw10, sA_ne _ _ _ _ _ (by decide), sA_ne _ _ _ _ _ (by decide), hw7, sA_ne _ _ _ _ _ (by decide), sA_ne _ _ _ _ _ (by decide), hw4, sA_ne _ _ _ _ _ (by decide), sA_at, q_cl e1]
  have a7 : (sS (sA w10 8 (nI (5 * nE m + 4)) e) 2 (nI (nE m) + 1)).2 7 = upd (y.2 7) (nE m) (nI (jm q)) := by
    rw [sS_a, sA_ne _ _ _ _ _ (by decide), hw10, sA_ne _ _ _ _ _ (by decide), sA_ne _ _ _ _ _ (by decide), hw7, sA_ne _ _ _ _ _ (by decide), sA_ne _ _ _ _ _ (by decide), hw4, sA_at, sA_ne _ _ _ _ _ (by decide), q_cl e1]
  have a8 : (sS (sA w10 8 (nI (5 * nE m + 4)) e) 2 (nI (nE m) + 1)).2 8 = w5 (y.2 8) (nE m) a b c d e := by
    rw [sS_a, sA_at, hw10, sA_at, sA_at, hw7, sA_at, sA_at, hw4, sA_ne _ _ _ _ _ (by decide), sA_ne _ _ _ _ _ (by decide), q_cl x0, q_cl x1, q_cl x2, q_cl x3, q_cl x4]
    rfl
  have v2 : (sS (sA w10 8 (nI (5 * nE m + 4)) e) 2 (nI (nE m) + 1)).1 2 = nI (nE m) + 1 := sS_at _ _ _
  generalize sS (sA w10 8 (nI (5 * nE m + 4)) e) 2 (nI (nE m) + 1) = y' at *
  refine ⟨⟨?_, ?_, ?_, ?_, ?_⟩, ?_, ?_, ?_, ?_, ?_, ?_, ?_⟩
  · rw [hs 0 (by decide), add_s _ _ _ _ _ _ _ 0 (by decide)]; exact hM.1.1
  · rw [hs 1 (by decide), add_s _ _ _ _ _ _ _ 1 (by decide)]; exact hM.1.2.1
  · rw [v2, hE1, nI_1]
  · rw [hs 3 (by decide), add_s _ _ _ _ _ _ _ 2 (by decide)]; exact hM.1.2.2.2.1
  · rw [hs 4 (by decide), add_s _ _ _ _ _ _ _ 5 (by decide)]; exact hM.1.2.2.2.2
  · rw [hs 5 (by decide), hs 6 (by decide), add_s _ _ _ _ _ _ _ 3 (by decide), add_s _ _ _ _ _ _ _ 4 (by decide)]; exact hM.2.1
  · rw [ha 1 (by decide) (by decide) (by decide), add_o _ _ _ _ _ _ _ 1 (by decide) (by decide) (by decide)]; exact hM.2.2.1
  · rw [ha 3 (by decide) (by decide) (by decide), add_o _ _ _ _ _ _ _ 18 (by decide) (by decide) (by decide)]; exact hM.2.2.2.1
  · rw [ha 4 (by decide) (by decide) (by decide), add_o _ _ _ _ _ _ _ 19 (by decide) (by decide) (by decide)]; exact hM.2.2.2.2.1
  · rw [ha 5 (by decide) (by decide) (by decide), add_o _ _ _ _ _ _ _ 6 (by decide) (by decide) (by decide)]; exact hM.2.2.2.2.2.1
  · intro k hk
    rw [hEE] at hk
    rw [a6, a7, a8, add_3 hI, add_4 hI]
    have hv := fun i hi => add_vl hI hE (nI s) (nI q) a b c d e k i hi
    by_cases hkE : k = nE m
    · subst hkE
      refine ⟨by rw [upd_at, upd_at], fun q' hq' h' => ?_, fun i hi => ?_⟩
      · rw [upd_at] at h' ⊢
        rw [(nI_eq (by omega) (by omega)).mp h']
      · rw [hv i hi, if_pos rfl, w5_at _ _ _ _ _ _ _ _ hi]
    · obtain ⟨g1, g2, g3⟩ := hM.2.2.2.2.2.2.1 k (by omega)
      refine ⟨by rw [upd_ne _ _ _ _ hkE, upd_ne _ _ _ _ hkE]; exact g1, fun q' hq' h' => ?_, fun i hi => ?_⟩
      · rw [upd_ne _ _ _ _ hkE] at h' ⊢
        exact g2 q' hq' h'
      · rw [hv i hi, if_neg hkE, w5_ne _ _ _ _ _ _ _ _ _ hkE hi]
        exact g3 i hi
  · intro i hi
    rw [hT] at hi
    rw [ha 0 (by decide) (by decide) (by decide), add_o _ _ _ _ _ _ _ 0 (by decide) (by decide) (by decide)]
    exact hM.2.2.2.2.2.2.2 i hi
theorem isC_ok (hI : iv m) {j : Int32} (h : isC m j) : ∃ q : Nat, q < 48 ∧ q % 24 < nJ m ∧ qC m j = nI q ∧ j = nI (jm q) := by
  have hJ := hI.2.1.2
  rcases h with h | h
  · obtain ⟨k, rfl, hk⟩ := q_nn h.1
    have h2 := h.2
    rw [hk] at h2
    refine ⟨k, by omega, by omega, ?_, jm0 (by omega)⟩
    unfold qC
    rw [if_pos (by rw [q_lt, hk, show (32 : Int32).toInt = 32 by decide]; omega)]
  · obtain ⟨k, hk, hk2⟩ := q_nn h.1
    have h2 := h.2
    rw [hk2] at h2
    have ej : j = nI (k + 32) := by rw [← nI_add, ← hk]; simp [show nI 32 = (32 : Int32) from rfl]
    have e := q_nI (n := k + 32) (by omega)
    refine ⟨24 + k, by omega, by omega, ?_, ?_⟩
    · unfold qC
      rw [if_neg (by rw [q_lt, ej, e, show (32 : Int32).toInt = 32 by decide]; omega), hk]
      exact nI_add 24 k
    · rw [← jm1 (by omega), ej, ← nI_add]
      rfl
end TEL
