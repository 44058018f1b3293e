section MMO
variable {m y : Sg} {n : Nat}
theorem nE_s (k : Nat) (v : Int32) (hk : k ≠ 11) : nE (sS m k v) = nE m := by unfold nE; rw [sS_ne _ _ _ _ hk.symm]
theorem nE_a (k : Nat) (i v : Int32) : nE (sA m k i v) = nE m := rfl
theorem nE_r (k : Nat) (f : Nat → Int32) : nE (sR m k f) = nE m := rfl
theorem vl_ne (k : Nat) (f : Nat → Int32) (l i : Nat) (hk : k ≠ 5) : vl (sR m k f) l i = vl m l i := by unfold vl; rw [sR_ne _ _ _ _ (fun q => hk q.symm)]
theorem eOk_c {m m' : Sg} {k s : Nat} (h : m'.2 5 = m.2 5) (he : eOk m k s) : eOk m' k s := by
  have hv : ∀ i, vl m' k i = vl m k i := fun i => by unfold vl; rw [h]
  unfold eOk
  simp only [hv]
  exact he
/-- the bounds go on where entries stay -/
theorem iv_c {m m' : Sg} (hI : iv m) (h0 : m'.1 0 = nI (nT m') ∧ nT m' ≤ 60) (h1 : m'.1 1 = nI (nJ m') ∧ nJ m' ≤ 24 ∧ nJ m ≤ nJ m') (h11 : m'.1 11 = nI (nE m') ∧ nE m' ≤ nE m) (h5 : 1 ≤ (m'.1 5).toInt ∧ (m'.1 5).toInt ≤ 50)
    (hr : ∀ i, i < 7 → (tb_LEAST i).toInt ≤ (m'.2 1 i).toInt ∧ (m'.2 1 i).toInt ≤ (tb_GREATEST i).toInt) (hw : ∀ i, i < 5 → 0 ≤ (m'.2 6 i).toInt ∧ (m'.2 6 i).toInt ≤ 9)
    (he : m'.2 3 = m.2 3 ∧ m'.2 4 = m.2 4 ∧ m'.2 5 = m.2 5) (h3 : -1 ≤ (m'.1 3).toInt ∧ (m'.1 3).toInt ≤ 600) : iv m' := by
  have hE := hI.2.2.1.2
  refine ⟨h0, ⟨h1.1, h1.2.1⟩, ⟨h11.1, by omega⟩, h5, hr, hw, fun k hk => ?_, h3⟩
  obtain ⟨s, q, g1, g2, g3, g4, g5, g6⟩ := hI.2.2.2.2.2.2.1 k (by omega)
  exact ⟨s, q, g1, g2, by omega, by rw [he.1]; exact g4, by rw [he.2.1]; exact g5, eOk_c he.2.2 g6⟩
theorem g_jumper {post : Int32 → Sg → Prop} (hI : iv m) (hM : Mr m y) (t : Int32) (h1 : isT t ∧ nJ m < 24 → ∀ y', iv (sS (sA m 18 (m.1 1) t) 1 (m.1 1 + 1)) → Mr (sS (sA m 18 (m.1 1) t) 1 (m.1 1 + 1)) y' → post (m.1 1) y') (h0 : ¬ (isT t ∧ nJ m < 24) → post (-10000) y) : pX5_jumper t y post := by
  have eJ := hM.J hI
  have hJ := hI.2.1.2
  have eM : m.1 1 = nI (nJ m) := hI.2.1.1
  have ej := q_nI (n := nJ m) (by omega)
  unfold pX5_jumper pX5_jumper_b18
  refine ⟨fun c => h0 ?_, fun c => g_lies _ _ _ (fun ht => ⟨fun _ => ⟨?_, ?_⟩, fun c => absurd c (by decide)⟩) (fun ht => ⟨fun c => absurd rfl c, fun _ => h0 (fun q => ht q.1)⟩)⟩
  · rintro ⟨-, h⟩
    simp only [q_eq, eJ, Int32.reduceToInt] at c
    omega
  · simp only [q_eq, eJ, Int32.reduceToInt] at c
    rw [hM.1.2.1, eM]
    exact q_in ej (by omega)
  · simp only [q_eq, eJ, Int32.reduceToInt] at c
    have hlt : nJ m < 24 := by omega
    rw [hM.1.2.1, eM, show nI (nJ m) + 1 - 1 = nI (nJ m) by rw [nI_1, nI_pred]]
    have hm : (sS (sA m 18 (m.1 1) t) 1 (m.1 1 + 1)).1 1 = nI (nJ m + 1) := by rw [sS_at, eM, nI_1]
    have hmJ : nJ (sS (sA m 18 (m.1 1) t) 1 (m.1 1 + 1)) = nJ m + 1 := by
      show ((sS (sA m 18 (m.1 1) t) 1 (m.1 1 + 1)).1 1).toNatClampNeg = _
      rw [hm]
      exact q_cl (q_nI (by omega))
    have hs : ∀ k, k ≠ 1 → (sS (sA m 18 (m.1 1) t) 1 (m.1 1 + 1)).1 k = m.1 k := fun k hk => sS_ne _ _ _ _ hk
    have ha : ∀ k, k ≠ 18 → (sS (sA m 18 (m.1 1) t) 1 (m.1 1 + 1)).2 k = m.2 k := fun k hk => sA_ne _ _ _ _ _ hk
    have h18 : (sS (sA m 18 (m.1 1) t) 1 (m.1 1 + 1)).2 18 = upd (m.2 18) (nJ m) t := by rw [sS_a, sA_at, eM, q_cl ej]
    have h1 := h1 ⟨ht, hlt⟩
    rw [← eM]
    generalize hm' : sS (sA m 18 (m.1 1) t) 1 (m.1 1 + 1) = m' at *
    have hE' : nE m' = nE m := by unfold nE; rw [hs 11 (by decide)]
    have hT' : nT m' = nT m := by unfold nT; rw [hs 0 (by decide)]
    refine h1 _ ?_ ?_
    · refine iv_c hI (by rw [hT', hs 0 (by decide)]; exact hI.1) ⟨by rw [hmJ]; exact hm, by omega, by omega⟩ ⟨by rw [hE', hs 11 (by decide)]; exact hI.2.2.1.1, by omega⟩ (by rw [hs 5 (by decide)]; exact hI.2.2.2.1) (by rw [ha 1 (by decide)]; exact hI.2.2.2.2.1) (by rw [ha 6 (by decide)]; exact hI.2.2.2.2.2.1) ⟨ha 3 (by decide), ha 4 (by decide), ha 5 (by decide)⟩ (by rw [hs 3 (by decide)]; exact hI.2.2.2.2.2.2.2)
    · have ys : ∀ k, k ≠ 1 → (sS (sA y 3 (m.1 1) t) 1 (m.1 1 + 1)).1 k = y.1 k := fun k hk => sS_ne _ _ _ _ hk
      have ya : ∀ k, k ≠ 3 → (sS (sA y 3 (m.1 1) t) 1 (m.1 1 + 1)).2 k = y.2 k := fun k hk => sA_ne _ _ _ _ _ hk
      have y3 : (sS (sA y 3 (m.1 1) t) 1 (m.1 1 + 1)).2 3 = upd (y.2 3) (nJ m) t := by rw [sS_a, sA_at, eM, q_cl ej]
      have y1 : (sS (sA y 3 (m.1 1) t) 1 (m.1 1 + 1)).1 1 = nI (nJ m + 1) := by rw [sS_at, eM, nI_1]
      generalize sS (sA y 3 (m.1 1) t) 1 (m.1 1 + 1) = y' at *
      refine ⟨⟨?_, ?_, ?_, ?_, ?_⟩, ?_, ?_, ?_, ?_, ?_, ?_, ?_⟩
      · rw [ys 0 (by decide), hs 0 (by decide)]; exact hM.1.1
      · rw [y1, hm]
      · rw [ys 2 (by decide), hs 11 (by decide)]; exact hM.1.2.2.1
      · rw [ys 3 (by decide), hs 2 (by decide)]; exact hM.1.2.2.2.1
      · rw [ys 4 (by decide), hs 5 (by decide)]; exact hM.1.2.2.2.2
      · rw [ys 5 (by decide), ys 6 (by decide), hs 3 (by decide), hs 4 (by decide)]; exact hM.2.1
      · rw [ya 1 (by decide), ha 1 (by decide)]; exact hM.2.2.1
      · intro i hi
        rw [y3, h18]
        by_cases hij : i = nJ m
        · rw [hij, upd_at, upd_at]
        · rw [upd_ne _ _ _ _ hij, upd_ne _ _ _ _ hij]; exact hM.2.2.2.1 i hi
      · rw [ya 4 (by decide), ha 19 (by decide)]; exact hM.2.2.2.2.1
      · rw [ya 5 (by decide), ha 6 (by decide)]; exact hM.2.2.2.2.2.1
      · intro k hk
        rw [hE'] at hk
        have hv : ∀ i, vl m' k i = vl m k i := fun i => by unfold vl; rw [ha 5 (by decide)]
        rw [ya 6 (by decide), ya 7 (by decide), ya 8 (by decide), ha 3 (by decide), ha 4 (by decide)]
        simp only [hv]
        exact hM.2.2.2.2.2.2.1 k hk
      · intro i hi
        rw [hT'] at hi
        rw [ya 0 (by decide), ha 0 (by decide)]
        exact hM.2.2.2.2.2.2.2 i hi
/-- where entries, tape and jumpers stay, little is to be said -/
theorem Mr_c {m m' y y' : Sg} (hM : Mr m y) (h0 : m'.1 0 = m.1 0 ∧ y'.1 0 = y.1 0) (h1 : m'.1 1 = m.1 1 ∧ y'.1 1 = y.1 1) (h11 : m'.1 11 = m.1 11 ∧ y'.1 2 = y.1 2) (h2 : y'.1 3 = m'.1 2) (h5 : y'.1 4 = m'.1 5)
    (hr : (m'.1 3 = -1 ∧ y'.1 5 = -10000 ∧ y'.1 6 = -10000) ∨ (0 ≤ (m'.1 3).toInt ∧ y'.1 5 = m'.1 3 ∧ y'.1 6 = m'.1 4)) (hu : ∀ i, i < 7 → y'.2 1 i = m'.2 1 i) (ht : m'.2 18 = m.2 18 ∧ y'.2 3 = y.2 3) (hs : ∀ i, i < 24 → y'.2 4 i = m'.2 19 i) (hw : ∀ i, i < 5 → y'.2 5 i = m'.2 6 i)
    (he : m'.2 3 = m.2 3 ∧ m'.2 4 = m.2 4 ∧ m'.2 5 = m.2 5) (he2 : y'.2 6 = y.2 6 ∧ y'.2 7 = y.2 7 ∧ y'.2 8 = y.2 8) (hp : m'.2 0 = m.2 0 ∧ y'.2 0 = y.2 0) : Mr m' y' := by
  have hE : nE m' = nE m := by unfold nE; rw [h11.1]
  have hT : nT m' = nT m := by unfold nT; rw [h0.1]
  refine ⟨⟨?_, ?_, ?_, h2, h5⟩, hr, hu, ?_, hs, hw, ?_, ?_⟩
  · rw [h0.1, h0.2]; exact hM.1.1
  · rw [h1.1, h1.2]; exact hM.1.2.1
  · rw [h11.1, h11.2]; exact hM.1.2.2.1
  · rw [ht.1, ht.2]; exact hM.2.2.2.1
  · intro k hk
    rw [hE] at hk
    have hv : ∀ i, vl m' k i = vl m k i := fun i => by unfold vl; rw [he.2.2]
    rw [he.1, he.2.1, he2.1, he2.2.1, he2.2.2]
    simp only [hv]
    exact hM.2.2.2.2.2.2.1 k hk
  · intro i hi
    rw [hT] at hi
    rw [hp.1, hp.2]
    exact hM.2.2.2.2.2.2.2 i hi
theorem g_sensor {post : Int32 → Sg → Prop} (hI : iv m) (hM : Mr m y) (s w : Int32) (h1 : okSensor s w → ∀ y', iv (sA m 6 s w) → Mr (sA m 6 s w) y' → post 1 y') (h0 : ¬ okSensor s w → post 0 y) : pX5_sensor s w y post := by
  unfold pX5_sensor pX5_sensor_b19
  refine g_lies _ _ _ (fun hs => ⟨fun c => absurd c (by decide), fun _ => ?_⟩) (fun hs => ⟨fun _ => h0 (fun q => hs q.1), fun c => absurd rfl c⟩)
  refine g_lies _ _ _ (fun hw => ⟨fun _ => ?_, fun c => absurd c (by decide)⟩) (fun hw => ⟨fun c => absurd rfl c, fun _ => h0 (fun q => hw q.2)⟩)
  have hs : 0 ≤ s.toInt ∧ s.toInt ≤ 4 := hs
  have hw : 0 ≤ w.toInt ∧ w.toInt ≤ 9 := hw
  obtain ⟨k, rfl, hk⟩ := q_nn hs.1
  have hs2 := hs.2
  rw [hk] at hs2
  have h6 : (sA m 6 (nI k) w).2 6 = upd (m.2 6) k w := by rw [sA_at, q_cl hk]
  have hy : (sA y 5 (nI k) w).2 5 = upd (y.2 5) k w := by rw [sA_at, q_cl hk]
  have ha : ∀ l, l ≠ 6 → (sA m 6 (nI k) w).2 l = m.2 l := fun l hl => sA_ne _ _ _ _ _ hl
  have ya : ∀ l, l ≠ 5 → (sA y 5 (nI k) w).2 l = y.2 l := fun l hl => sA_ne _ _ _ _ _ hl
  refine ⟨q_in hk (by omega), h1 ⟨hs, hw⟩ _ ?_ ?_⟩
  · refine iv_c hI hI.1 ⟨hI.2.1.1, hI.2.1.2, Nat.le_refl _⟩ ⟨hI.2.2.1.1, Nat.le_refl _⟩ hI.2.2.2.1 (by rw [ha 1 (by decide)]; exact hI.2.2.2.2.1) (fun i hi => ?_) ⟨ha 3 (by decide), ha 4 (by decide), ha 5 (by decide)⟩ hI.2.2.2.2.2.2.2
    rw [h6]
    by_cases hij : i = k
    · rw [hij, upd_at]; exact hw
    · rw [upd_ne _ _ _ _ hij]; exact hI.2.2.2.2.2.1 i hi
  · refine Mr_c hM ⟨rfl, rfl⟩ ⟨rfl, rfl⟩ ⟨rfl, rfl⟩ hM.1.2.2.2.1 hM.1.2.2.2.2 hM.2.1 (by rw [ha 1 (by decide), ya 1 (by decide)]; exact hM.2.2.1) ⟨ha 18 (by decide), ya 3 (by decide)⟩ (by rw [ha 19 (by decide), ya 4 (by decide)]; exact hM.2.2.2.2.1) (fun i hi => ?_) ⟨ha 3 (by decide), ha 4 (by decide), ha 5 (by decide)⟩ ⟨ya 6 (by decide), ya 7 (by decide), ya 8 (by decide)⟩ ⟨ha 0 (by decide), ya 0 (by decide)⟩
    rw [h6, hy]
    by_cases hij : i = k
    · rw [hij, upd_at, upd_at]
    · rw [upd_ne _ _ _ _ hij, upd_ne _ _ _ _ hij]; exact hM.2.2.2.2.2.1 i hi
theorem g_base {post : Int32 → Sg → Prop} (hI : iv m) (hM : Mr m y) (g : Int32) (h1 : isG g → ∀ y', iv (sS m 5 g) → Mr (sS m 5 g) y' → post 1 y') (h0 : ¬ isG g → post 0 y) : pX5_base g y post := by
  unfold pX5_base
  refine g_lies _ _ _ (fun hg => ⟨fun _ => ?_, fun c => absurd c (by decide)⟩) (fun hg => ⟨fun c => absurd rfl c, fun _ => h0 hg⟩)
  have hg : isG g := hg
  have hs : ∀ k, k ≠ 5 → (sS m 5 g).1 k = m.1 k := fun k hk => sS_ne _ _ _ _ hk
  have ys : ∀ k, k ≠ 4 → (sS y 4 g).1 k = y.1 k := fun k hk => sS_ne _ _ _ _ hk
  have e0 : nT (sS m 5 g) = nT m := by unfold nT; rw [hs 0 (by decide)]
  have e1 : nJ (sS m 5 g) = nJ m := by unfold nJ; rw [hs 1 (by decide)]
  have e2 : nE (sS m 5 g) = nE m := by unfold nE; rw [hs 11 (by decide)]
  refine h1 hg _ ?_ ?_
  · exact iv_c hI (by rw [e0, hs 0 (by decide)]; exact hI.1) ⟨by rw [e1, hs 1 (by decide)]; exact hI.2.1.1, by rw [e1]; exact hI.2.1.2, by omega⟩ ⟨by rw [e2, hs 11 (by decide)]; exact hI.2.2.1.1, by omega⟩ (by rw [sS_at]; exact hg) hI.2.2.2.2.1 hI.2.2.2.2.2.1 ⟨rfl, rfl, rfl⟩ (by rw [hs 3 (by decide)]; exact hI.2.2.2.2.2.2.2)
  · exact Mr_c hM ⟨hs 0 (by decide), ys 0 (by decide)⟩ ⟨hs 1 (by decide), ys 1 (by decide)⟩ ⟨hs 11 (by decide), ys 2 (by decide)⟩ (by rw [hs 2 (by decide), ys 3 (by decide)]; exact hM.1.2.2.2.1) (by rw [sS_at, sS_at]) (by rw [hs 3 (by decide), hs 4 (by decide), ys 5 (by decide), ys 6 (by decide)]; exact hM.2.1) hM.2.2.1 ⟨rfl, rfl⟩ hM.2.2.2.2.1 hM.2.2.2.2.2.1 ⟨rfl, rfl, rfl⟩ ⟨rfl, rfl, rfl⟩ ⟨rfl, rfl⟩
theorem g_rule {post : Int32 → Sg → Prop} (hM : Mr m y) (a : Int32) (h1 : 0 ≤ a.toInt ∧ a.toInt < 7 → post (m.2 1 a.toNatClampNeg) y) (h0 : ¬ (0 ≤ a.toInt ∧ a.toInt < 7) → post (-10000) y) : pX5_rule a y post := by
  unfold pX5_rule pX5_rule_b22
  refine g_lies _ _ _ (fun ha => ⟨fun c => absurd c (by decide), fun _ => ?_⟩) (fun ha => ⟨fun _ => h0 ?_, fun c => absurd rfl c⟩)
  · have ha : 0 ≤ a.toInt ∧ a.toInt ≤ 6 := ha
    have hp := h1 (by omega)
    obtain ⟨k, rfl, hk⟩ := q_nn ha.1
    rw [q_cl hk] at hp
    have ha2 := ha.2
    rw [hk] at ha2
    obtain ⟨g1, g2⟩ := hM.ru (i := k) (by omega)
    rw [g2]
    exact ⟨g1, hp⟩
  · have ha : ¬ (0 ≤ a.toInt ∧ a.toInt ≤ 6) := ha
    omega
theorem sbp_out {j v : Nat} (h : nJ m ≤ v) : sbp m n j v = false := by unfold sbp th; rw [on_out h]; rfl
theorem th_on {j : Nat} (h : th m n j = true) : on m n j = true := by
  unfold th at h
  rw [Bool.and_eq_true] at h
  exact h.1
theorem g_start {post : Int32 → Sg → Prop} (hI : iv m) (hM : Mr m y) (e r i : Int32) (h0 : ¬ (isK m e ∧ isR r) → post (-10000) y)
    (hj : isK m e ∧ isR r → r = 0 → isJ m i → post i y) (hn : isK m e ∧ isR r → r = 0 → ¬ isJ m i → post (-10000) y)
    (h1 : isK m e ∧ isR r → ¬ r = 0 → ∀ y', Mr m y' → post (srch (stp m e.toNatClampNeg i) 24 0) y') : pX5_start e r i y post := by
  have hJ := hI.2.1.2
  unfold pX5_start pX5_start_b17 pX5_start_b40
  refine g_isKnowing hI hM e (fun he => ⟨fun c => absurd c (by decide), fun _ => ?_⟩) (fun he => ⟨fun _ => h0 (fun q => he q.1), fun c => absurd rfl c⟩)
  refine g_lies _ _ _ (fun hr => ⟨fun _ => ⟨fun c0 => ?_, fun c0 => ?_⟩, fun c => absurd c (by decide)⟩) (fun hr => ⟨fun c => absurd rfl c, fun _ => h0 (fun q => hr q.2)⟩)
  · have hx := h1 ⟨he, hr⟩ c0
    clear h1 h0 hj hn
    obtain ⟨hn, hnE⟩ := isK_ok hI he
    generalize e.toNatClampNeg = n at *
    subst hn
    refine g_works hI hM hnE fun u hW => ?_
    have eJ := hW.1.J hI
    have hp := hx u hW.1
    rw [srch_cut hJ (fun k hk => by unfold stp th; rw [on_out (by omega)]; rfl)] at hp
    unfold pX5_start_l49
    refine lp_intro (fun (a : Int32 × Int32) (w : Sg) => w = u ∧ a.1 = i ∧ ∃ j : Nat, j ≤ nJ m ∧ a.2 = nI j ∧ srch (stp m n i) (nJ m) 0 = srch (stp m n i) (nJ m - j) j) (fun a _ => 24 - a.2.toNatClampNeg) ?_ _ _ ⟨rfl, rfl, 0, by omega, rfl, rfl⟩
    rintro K ⟨a, b⟩ w ⟨rfl, ha, j, hj, hb, hsr⟩ ih
    simp only at ha hb ih ⊢
    subst ha hb
    have e := q_nI (n := j) (by omega)
    have e1 := q_nI (n := j + 1) (by omega)
    unfold pX5_start_b49
    refine ⟨fun c => ?_, fun c => ⟨?_, fun c1 => ?_, fun c1 => ?_⟩⟩
    · simp only [q_le, e, eJ] at c
      rw [hsr, show nJ m - j = 0 by omega] at hp
      exact hp
    · simp only [q_le, e, eJ] at c
      exact q_in e (by omega)
    all_goals simp only [q_le, e, eJ] at c
    all_goals have g10 : gA w 10 (nI j) = b2 (th m n j) := by unfold gA; rw [q_cl e, hW.2.2.2.1 j (by omega)]
    all_goals rw [g10] at c1
    all_goals have st := srch_step (p := stp m n a) (J := nJ m) (j := j) (by omega)
    all_goals have nx : stp m n a j = false → pX5_start_b162 (fun (x3 x4 : Int32) z => K (x3, x4) z) post a (nI j) w := fun hq => ih _ _ ⟨rfl, rfl, j + 1, by omega, nI_1 j, by rw [hsr, st, hq]; rfl⟩ (by simp only [nI_1, q_cl e, q_cl e1]; omega)
    · have ht := b2_ne c1
      have pj : stp m n a j = decide (nI (ct (sbp m n j) 24) = a) := by unfold stp; rw [ht]; rfl
      have g11 : gA w 11 (nI j) = fp m n j := by unfold gA; rw [q_cl e, hW.2.2.1 j (by omega) (th_on ht)]
      unfold pX5_start_l77
      refine lp_intro (fun (a2 : Int32 × Int32 × Int32 × Int32) (w2 : Sg) => w2 = w ∧ a2.1 = a ∧ a2.2.1 = nI j ∧ ∃ o : Nat, o ≤ nJ m ∧ a2.2.2.2 = nI o ∧ a2.2.2.1 = nI (ct (sbp m n j) o)) (fun a _ => 24 - a.2.2.2.toNatClampNeg) ?_ _ _ ⟨rfl, rfl, rfl, 0, by omega, rfl, rfl⟩
      rintro K2 ⟨a2, b2', x5, x6⟩ w2 ⟨rfl, ha2, hb2, o, ho, hx6, hx5⟩ ih2
      simp only at ha2 hb2 hx6 hx5 ih2 ⊢
      subst ha2 hb2 hx6 hx5
      have eo := q_nI (n := o) (by omega)
      have eo1 := q_nI (n := o + 1) (by omega)
      unfold pX5_start_b77 pX5_start_b143 pX5_start_b139 pX5_start_b144
      refine ⟨fun d => ?_, fun d => ?_⟩
      · simp only [q_le, eo, eJ] at d
        have : o = nJ m := by omega
        subst this
        rw [← ct_ext hJ (fun v h1 _ => sbp_out h1)]
        refine ⟨fun d1 => nx (by rw [pj]; simp [d1]), fun d1 => ?_⟩
        rw [hsr, st, pj, decide_eq_true d1] at hp
        exact hp
      · simp only [q_le, eo, eJ] at d
        have hoJ : o < nJ m := by omega
        have t1 : gA w2 10 (nI o) = b2 (th m n o) := by unfold gA; rw [q_cl eo, hW.2.2.2.1 o hoJ]
        rw [t1, g11]
        have nx2 : ∀ r : Int32, r = nI (ct (sbp m n j) (o + 1)) → K2 (a2, nI j, r, nI o + 1) w2 := fun r hr =>
          ih2 _ _ ⟨rfl, rfl, rfl, o + 1, by omega, nI_1 o, hr⟩ (by simp only [nI_1, q_cl eo, q_cl eo1]; omega)
        have fF : sbp m n j o = false → ∀ v1 : Int32, v1 = nI (ct (sbp m n j) o) + 0 → K2 (a2, nI j, v1, nI o + 1) w2 := fun hq v1 hv1 =>
          nx2 _ (by rw [hv1, Int32.add_zero]; simp [ct, hq])
        have fT : sbp m n j o = true → ∀ v1 : Int32, v1 = nI (ct (sbp m n j) o) + 1 → K2 (a2, nI j, v1, nI o + 1) w2 := fun hq v1 hv1 =>
          nx2 _ (by rw [hv1, nI_1]; simp only [ct, hq, if_true])
        refine ⟨q_in eo (by omega), fun d1 => fF ?_, fun d1 => ⟨q_in eo (by omega), q_in e (by omega), fun d2 => fT ?_, fun d2 => ⟨q_in eo (by omega), q_in e (by omega), fun d3 => fF ?_, fun d3 => ⟨fun d4 => fF ?_, fun d4 => fT ?_⟩⟩⟩⟩
        · simp [sbp, b2_eq d1]
        all_goals have hto := b2_ne d1
        all_goals have s1 : gA w2 11 (nI o) = fp m n o := by unfold gA; rw [q_cl eo, hW.2.2.1 o hoJ (th_on hto)]
        all_goals rw [s1] at d2
        · simp [sbp, hto, d2]
        all_goals rw [s1] at d3
        · simp [sbp, d2, d3]
        · simp only [q_le, eo, e] at d4
          simp [sbp, d2, show ¬ j < o by omega]
        · simp only [q_le, eo, e] at d4
          simp [sbp, hto, d3, show j < o by omega]
    · exact nx (by unfold stp; rw [b2_eq c1]; rfl)
  · exact g_isJumper hI hM i (fun q => ⟨fun c => absurd c (by decide), fun _ => hj ⟨he, hr⟩ c0 q⟩) (fun q => ⟨fun _ => hn ⟨he, hr⟩ c0 q, fun c => absurd rfl c⟩)
theorem srn_step {p : Nat → Bool} {i c : Int32} {J j : Nat} (h : j < J) : srn p i (J - j) j c = if p j then (if c = i then nI j else srn p i (J - (j + 1)) (j + 1) (c + 1)) else srn p i (J - (j + 1)) (j + 1) c := by
  rw [show J - j = (J - (j + 1)) + 1 by omega]
  rfl
theorem g_differ {post : Int32 → Sg → Prop} (hI : iv m) (hM : Mr m y) (e f i : Int32) (h0 : ¬ (isK m e ∧ isK m f ∧ 0 ≤ i.toInt) → post (-10000) y)
    (h1 : isK m e ∧ isK m f ∧ 0 ≤ i.toInt → ∀ y', Mr m y' → post (srn (dfp m e.toNatClampNeg f.toNatClampNeg) i (nJ m) 0 0) y') : pX5_differ e f i y post := by
  have hJ := hI.2.1.2
  unfold pX5_differ pX5_differ_b20
  refine g_isKnowing hI hM e (fun he => ⟨fun c => absurd c (by decide), fun _ => ?_⟩) (fun he => ⟨fun _ => h0 (fun q => he q.1), fun c => absurd rfl c⟩)
  refine g_isKnowing hI hM f (fun hf => ⟨fun c => absurd c (by decide), fun _ => ⟨fun c => ?_, fun c => h0 ?_⟩⟩) (fun hf => ⟨fun _ => h0 (fun q => hf q.2.1), fun c => absurd rfl c⟩)
  · have hi : 0 ≤ i.toInt := by simp only [q_le, Int32.reduceToInt] at c; omega
    have hx := h1 ⟨he, hf, hi⟩
    clear h1 h0
    obtain ⟨hn, hnE⟩ := isK_ok hI he
    obtain ⟨hk, hkE⟩ := isK_ok hI hf
    generalize e.toNatClampNeg = n at *
    generalize f.toNatClampNeg = l at *
    subst hn hk
    refine g_works hI hM hnE fun u hW => ?_
    -- behind the first loop
    have L2 : ∀ u2, Mr m u2 → (∀ j, j < nJ m → u2.2 13 j = pl m n j) → pX5_works (nI l) u2 (fun u2 => pX5_differ_l85 post i 0 0 u2) := fun u2 hM2 h13 => by
      -- works leaves the row of places
      have key : ∀ (post : Sg → Prop), (∀ v, Wk m l v → (∀ j, j < nJ m → v.2 13 j = pl m n j) → post v) → pX5_works (nI l) u2 post := fun post hpost => by
        exact g_worksF hI hM2 hkE (fun v hv h13v => hpost v hv (fun j hj => by rw [h13v]; exact h13 j hj))
      refine key _ fun v hWv h13v => ?_
      have hp := hx v hWv.1
      have eJ := hWv.1.J hI
      unfold pX5_differ_l85
      refine lp_intro (fun (a : Int32 × Int32 × Int32) (w : Sg) => w = v ∧ a.1 = i ∧ ∃ j : Nat, j ≤ nJ m ∧ a.2.2 = nI j ∧ srn (dfp m n l) i (nJ m) 0 0 = srn (dfp m n l) i (nJ m - j) j a.2.1) (fun a _ => 24 - a.2.2.toNatClampNeg) ?_ _ _ ⟨rfl, rfl, 0, by omega, rfl, rfl⟩
      rintro K ⟨a, b, d⟩ w ⟨rfl, ha, j, hj, hd, hs⟩ ih
      simp only at ha hd hs ih ⊢
      subst ha hd
      have e := q_nI (n := j) (by omega)
      have e1 := q_nI (n := j + 1) (by omega)
      unfold pX5_differ_b85
      refine ⟨fun c => ?_, fun c => ?_⟩
      · simp only [q_le, e, eJ] at c
        rw [hs, show nJ m - j = 0 by omega] at hp
        exact hp
      · simp only [q_le, e, eJ] at c
        have hjJ : j < nJ m := by omega
        have st := srn_step (p := dfp m n l) (i := a) (c := b) hjJ
        have hm : 24 - (nI j + 1).toNatClampNeg < 24 - (nI j).toNatClampNeg := by simp only [nI_1, q_cl e, q_cl e1]; omega
        have g9 : gA w 9 (nI j) = b2 (on m l j) := by unfold gA; rw [q_cl e, hWv.2.1 j hjJ]
        have g13 : gA w 13 (nI j) = pl m n j := by unfold gA; rw [q_cl e, h13v j hjJ]
        rw [g9, g13]
        have go : pX5_differ_b121 (fun (x3 x4 x5 : Int32) z => K (x3, x4, x5) z) post a b (nI j) (pl m l j) (pl m n j) w := by
          unfold pX5_differ_b121 pX5_differ_b139
          refine ⟨fun c1 => ?_, fun c1 => ?_⟩
          · have hd : dfp m n l j = true := by simp [dfp, c1]
            refine ⟨fun c2 => ?_, fun c2 => ?_⟩
            · exact ih _ _ ⟨rfl, rfl, j + 1, by omega, nI_1 j, by rw [hs, st, hd, if_neg c2]; rfl⟩ hm
            · rw [hs, st, hd, if_pos c2] at hp
              exact hp
          · have : dfp m n l j = false := by simp [dfp, c1]
            exact ih _ _ ⟨rfl, rfl, j + 1, by omega, nI_1 j, by rw [hs, st, this]; rfl⟩ hm
        refine ⟨q_in e (by omega), q_in e (by omega), fun c1 => ?_, fun c1 => g_place hI hWv j hjJ (b2_ne c1) go⟩
        rw [(pl_on j).2 (b2_eq c1)] at go
        exact go
    unfold pX5_differ_l32
    refine lp_intro (fun (a : Int32 × Int32 × Int32) (w : Sg) => a.1 = nI l ∧ a.2.1 = i ∧ Wk m n w ∧ ∃ j : Nat, j ≤ nJ m ∧ a.2.2 = nI j ∧ ∀ k, k < j → w.2 13 k = pl m n k) (fun a _ => 24 - a.2.2.toNatClampNeg) ?_ _ _ ⟨rfl, rfl, hW, 0, by omega, rfl, fun k hk => absurd hk (Nat.not_lt_zero k)⟩
    rintro K ⟨a, b, d⟩ w ⟨ha, hb, hWw, j, hj, hd, h13⟩ ih
    simp only at ha hb hd ih ⊢
    subst ha hb hd
    have e := q_nI (n := j) (by omega)
    have e1 := q_nI (n := j + 1) (by omega)
    have eJ := hWw.1.J hI
    unfold pX5_differ_b32
    refine ⟨fun c => ?_, fun c => ?_⟩
    · simp only [q_le, e, eJ] at c
      have : j = nJ m := by omega
      subst this
      exact L2 w hWw.1 h13
    · simp only [q_le, e, eJ] at c
      have hjJ : j < nJ m := by omega
      have g9 : gA w 9 (nI j) = b2 (on m n j) := by unfold gA; rw [q_cl e, hWw.2.1 j hjJ]
      have nx : pX5_differ_b67 (fun (x2 x3 x4 : Int32) z => K (x2, x3, x4) z) post (nI l) b (nI j) (pl m n j) (nI j) w := by
        unfold pX5_differ_b67
        refine ⟨q_in e (by omega), ih _ _ ⟨rfl, rfl, ⟨hWw.1.tA _ _ _, ?_, ?_, ?_, ?_⟩, j + 1, by omega, nI_1 j, fun k hk => ?_⟩ (by simp only [nI_1, q_cl e, q_cl e1]; omega)⟩
        · rw [sA_ne _ _ _ _ _ (by decide)]; exact hWw.2.1
        · rw [sA_ne _ _ _ _ _ (by decide)]; exact hWw.2.2.1
        · rw [sA_ne _ _ _ _ _ (by decide)]; exact hWw.2.2.2.1
        · rw [sA_ne _ _ _ _ _ (by decide)]; exact hWw.2.2.2.2
        · rw [sA_at, q_cl e]
          by_cases hij : k = j
          · rw [hij, upd_at]
          · rw [upd_ne _ _ _ _ hij]; exact h13 k (by omega)
      rw [g9]
      refine ⟨q_in e (by omega), fun c1 => ?_, fun c1 => g_place hI hWw j hjJ (b2_ne c1) nx⟩
      rw [(pl_on j).2 (b2_eq c1)] at nx
      exact nx
  · simp only [q_le, Int32.reduceToInt] at c; rintro ⟨-, -, h⟩; omega
theorem g_count {post : Int32 → Sg → Prop} (hI : iv m) (hM : Mr m y) (w : Int32) (h : ∀ y', Mr m y' → post (cntR m w) y') : pX5_count w y post := by
  have hJ := hI.2.1.2
  unfold pX5_count
  have hsub : 0 ≤ (w - 10).toInt ∧ (w - 10).toInt ≤ 4 ↔ 10 ≤ w.toInt ∧ w.toInt ≤ 14 := by
    constructor
    · intro ⟨h1, h2⟩
      obtain ⟨k, hk, hk2⟩ := q_nn h1
      rw [hk2] at h2
      have ew : w = nI (k + 10) := by rw [← nI_add, ← hk]; simp [show nI 10 = (10 : Int32) from rfl]
      have := q_nI (n := k + 10) (by omega)
      rw [ew, this]
      omega
    · intro ⟨h1, h2⟩
      obtain ⟨k, rfl, hk⟩ := q_nn (x := w) (by omega)
      rw [hk] at h1 h2
      rw [show (10 : Int32) = nI 10 from rfl, pk_sub (by omega), q_nI (by omega)]
      omega
  refine g_lies _ _ _ (fun hw => ⟨fun c => absurd c (by decide), fun _ => ?_⟩) (fun hw => ⟨fun _ => ?_, fun c => absurd rfl c⟩)
  · have hw := hsub.mp hw
    obtain ⟨k, rfl, hk⟩ := q_nn (x := w) (by omega)
    rw [hk] at hw
    have es : nI k - 10 = nI (k - 10) := by rw [show (10 : Int32) = nI 10 from rfl]; exact pk_sub (by omega)
    have ek := q_nI (n := k - 10) (by omega)
    rw [es]
    refine ⟨q_in ek (by omega), ?_⟩
    have hp := h y hM
    unfold cntR at hp
    have ne : ∀ i : Nat, i < 10 → ¬ nI k = nI i := fun i hi q => by rw [nI_eq (by omega) (by omega)] at q; omega
    rw [if_neg (show ¬ nI k = (0 : Int32) from ne 0 (by omega)), if_neg (show ¬ nI k = (1 : Int32) from ne 1 (by omega)), if_neg (show ¬ nI k = (2 : Int32) from ne 2 (by omega)), if_neg (show ¬ nI k = (3 : Int32) from ne 3 (by omega)), if_neg (show ¬ nI k = (4 : Int32) from ne 4 (by omega)), if_neg (show ¬ nI k = (5 : Int32) from ne 5 (by omega)), if_neg (show ¬ nI k = (6 : Int32) from ne 6 (by omega)), if_pos (by rw [hk]; omega)] at hp
    unfold gA
    rw [q_cl ek, hM.2.2.2.2.2.1 _ (by omega)]
    rw [hk, show ((k : Int) - 10).toNat = k - 10 by omega] at hp
    exact hp
  · have hw : ¬ (10 ≤ w.toInt ∧ w.toInt ≤ 14) := fun q => hw (hsub.mpr q)
    rw [hM.1.2.2.1, hI.2.2.1.1]
    refine g_works hI hM (Nat.le_refl _) fun u hW => ?_
    have eJ := hW.1.J hI
    have hp := h u hW.1
    unfold pX5_count_l37
    refine lp_intro (fun (a : Int32 × Int32 × Int32 × Int32) (v : Sg) => v = u ∧ a.1 = w ∧ ∃ j : Nat, j ≤ nJ m ∧ a.2.2.2 = nI j ∧ a.2.1 = nI (ct (on m (nE m)) j) ∧ a.2.2.1 = nI (ct (th m (nE m)) j)) (fun a _ => 24 - a.2.2.2.toNatClampNeg) ?_ _ _ ⟨rfl, rfl, 0, by omega, rfl, rfl, rfl⟩
    rintro K ⟨a, x2, x3, x4⟩ v ⟨rfl, ha, j, hj, hx4, hx2, hx3⟩ ih
    simp only at ha hx2 hx3 hx4 ih ⊢
    subst ha hx2 hx3 hx4
    have e := q_nI (n := j) (by omega)
    have e1 := q_nI (n := j + 1) (by omega)
    unfold pX5_count_b37
    refine ⟨fun c => ?_, fun c => ?_⟩
    · simp only [q_le, e, eJ] at c
      have : j = nJ m := by omega
      subst this
      unfold cntR at hp
      rw [← ct_ext hJ (fun v h1 _ => on_out h1), ← ct_ext hJ (fun v h1 _ => by unfold th; rw [on_out h1]; rfl)]
      obtain ⟨⟨y0, y1, y2, y3, y4⟩, -⟩ := hW.1
      rw [y0, y1, y2, y3, y4]
      refine ⟨fun c => ?_, fun d0 => ⟨fun c => ?_, fun d1 => ⟨fun c => ?_, fun d2 => ⟨fun c => ?_, fun d3 => ⟨fun c => ?_, fun d4 => ⟨fun c => ?_, fun d5 => ⟨fun c => ?_, fun d6 => ?_⟩⟩⟩⟩⟩⟩⟩
      · rw [if_pos c] at hp; exact hp
      · rw [if_neg d0, if_pos c] at hp; exact hp
      · rw [if_neg d0, if_neg d1, if_pos c] at hp; exact hp
      · rw [if_neg d0, if_neg d1, if_neg d2, if_pos c] at hp; exact hp
      · rw [if_neg d0, if_neg d1, if_neg d2, if_neg d3, if_pos c] at hp; exact hp
      · rw [if_neg d0, if_neg d1, if_neg d2, if_neg d3, if_neg d4, if_pos c] at hp; exact hp
      · rw [if_neg d0, if_neg d1, if_neg d2, if_neg d3, if_neg d4, if_neg d5, if_pos c] at hp; exact hp
      · rw [if_neg d0, if_neg d1, if_neg d2, if_neg d3, if_neg d4, if_neg d5, if_neg d6, if_neg hw] at hp; exact hp
    · simp only [q_le, e, eJ] at c
      have hjJ : j < nJ m := by omega
      have g9 : gA v 9 (nI j) = b2 (on m (nE m) j) := by unfold gA; rw [q_cl e, hW.2.1 j hjJ]
      have g10 : gA v 10 (nI j) = b2 (th m (nE m) j) := by unfold gA; rw [q_cl e, hW.2.2.2.1 j hjJ]
      rw [g9]
      have addb : ∀ (t : Nat) (b : Bool), nI t + b2 b = nI (t + if b then 1 else 0) := fun t b => by cases b <;> simp [b2, nI_1, ← nI_1]
      have mid : pX5_count_b62 (fun (x1 x2 x3 x4 : Int32) z => K (x1, x2, x3, x4) z) post a (nI (ct (th m (nE m)) j)) (nI j) (b2 (on m (nE m) j)) (nI (ct (on m (nE m)) j)) v := by
        unfold pX5_count_b62 pX5_count_b80
        intro v1 hv1
        have hv2 : v1 = nI (ct (on m (nE m)) (j + 1)) := by rw [hv1, addb]; rfl
        rw [g10]
        have fin : K (a, v1, nI (ct (th m (nE m)) j) + b2 (th m (nE m) j), nI j + 1) v :=
          ih _ _ ⟨rfl, rfl, j + 1, by omega, nI_1 j, hv2, by rw [addb]; rfl⟩ (by simp only [nI_1, q_cl e, q_cl e1]; omega)
        refine ⟨q_in e (by omega), fun d v5 hv5 => ?_, fun d v5 hv5 => ?_⟩
        · rw [hv5]; rw [d] at fin; exact fin
        · rw [hv5]; rw [b2_ne d] at fin; exact fin
      refine ⟨q_in e (by omega), fun d => ?_, fun d => ?_⟩
      · rw [d] at mid; exact mid
      · rw [b2_ne d] at mid; exact mid
end MMO
