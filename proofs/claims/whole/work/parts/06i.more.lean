section MORE
variable {m z : Sg} {n : Nat}
theorem c_jumper {post : Int32 → Sg → Prop} (hI : iv m) (hC : Cr m z) (t : Int32) (h1 : isT t ∧ nJ m < 24 → ∀ z', Cr (sS (sA m 18 (m.1 1) t) 1 (m.1 1 + 1)) z' → post (m.1 1) z') (h0 : ¬ (isT t ∧ nJ m < 24) → post (-10000) z) : pX4_jumper t z post := by
  have eJ := iv_J hI hC
  have eM : (m.1 1).toInt = (nJ m : Int) := iv_J hI (Cr.rf m)
  unfold pX4_jumper pX4_jumper_b24
  refine e_isTeam t (fun ht => ⟨fun c => absurd c (by decide), fun _ => ⟨fun c => ?_, fun _ => ⟨fun c v hv => ?_, fun c => h0 ?_⟩⟩⟩) (fun ht => ⟨fun _ => h0 (fun q => ht q.1), fun c => absurd rfl c⟩)
  · simp only [q_lt, eJ, Int32.reduceToInt] at c; omega
  · simp only [q_lt, eJ, Int32.reduceToInt] at c
    rw [hC.s 1] at hv
    subst hv
    exact ⟨q_in eM (by omega), h1 ⟨ht, by omega⟩ _ ((hC.uA 18 _ _).uS 1 _)⟩
  · simp only [q_lt, eJ, Int32.reduceToInt] at c
    rintro ⟨-, h⟩
    omega
abbrev okSensor (s w : Int32) : Prop := (0 ≤ s.toInt ∧ s.toInt ≤ 4) ∧ 0 ≤ w.toInt ∧ w.toInt ≤ 9
theorem c_sensor {post : Int32 → Sg → Prop} (hC : Cr m z) (s w : Int32) (h1 : okSensor s w → ∀ z', Cr (sA m 6 s w) z' → post 1 z') (h0 : ¬ okSensor s w → post 0 z) : pX4_sensor s w z post := by
  unfold pX4_sensor pX4_sensor_b18
  refine e_isSensor s (fun hs => ⟨fun c => absurd c (by decide), fun _ => ⟨fun c => h0 ?_, fun c1 => ⟨fun c2 => ⟨vp_in_iff.mpr (by omega), h1 ⟨hs, ?_⟩ _ (hC.uA 6 _ _)⟩, fun c => h0 ?_⟩⟩⟩) (fun hs => ⟨fun _ => h0 (fun q => hs q.1), fun c => absurd rfl c⟩)
  · simp only [q_lt, Int32.reduceToInt] at c; rintro ⟨-, h, -⟩; omega
  · simp only [q_lt, q_le, Int32.reduceToInt] at c1 c2; omega
  · simp only [q_le, Int32.reduceToInt] at c; rintro ⟨-, -, h⟩; omega
theorem c_base {post : Int32 → Sg → Prop} (hC : Cr m z) (g : Int32) (h1 : isG g → ∀ z', Cr (sS m 5 g) z' → post 1 z') (h0 : ¬ isG g → post 0 z) : pX4_base g z post := by
  unfold pX4_base
  exact e_isGate g (fun hg => ⟨fun _ => h1 hg _ (hC.uS 5 g), fun c => absurd c (by decide)⟩) (fun hg => ⟨fun c => absurd rfl c, fun _ => h0 hg⟩)
theorem c_rule {post : Int32 → Sg → Prop} (hC : Cr m z) (a : Int32) (h1 : 0 ≤ a.toInt ∧ a.toInt < 7 → post (m.2 1 a.toNatClampNeg) z) (h0 : ¬ (0 ≤ a.toInt ∧ a.toInt < 7) → post (-10000) z) : pX4_rule a z post := by
  unfold pX4_rule pX4_rule_b24
  refine e_isLetter a (fun ha => ⟨fun c => absurd c (by decide), fun _ => ?_⟩) (fun ha => ⟨fun _ => h0 ha, fun c => absurd rfl c⟩)
  have hp := h1 ha
  obtain ⟨k, rfl, hk⟩ := q_nn ha.1
  rw [q_cl hk] at hp
  exact e_num hC k (by omega) hp
/-- who stands otherwise by n and by k -/
def dfp (m : Sg) (n k : Nat) : Nat → Bool := fun j => !decide (pl m n j = pl m k j)
/-- the i-th that is meant, from j on, of f many, c of them being passed -/
def srn (p : Nat → Bool) (i : Int32) : Nat → Nat → Int32 → Int32
  | 0, _, _ => -10000
  | f + 1, j, c => if p j then (if c = i then nI j else srn p i f (j + 1) (c + 1)) else srn p i f (j + 1) c
theorem c_differ {post : Int32 → Sg → Prop} (hI : iv m) (hC : Cr m z) (e f i : Int32) (h0 : ¬ (isK m e ∧ isK m f ∧ 0 ≤ i.toInt) → post (-10000) z)
    (h1 : isK m e ∧ isK m f ∧ 0 ≤ i.toInt → ∀ z', Cr m z' → post (srn (dfp m e.toNatClampNeg f.toNatClampNeg) i (nJ m) 0 0) z') : pX4_differ e f i z post := by
  have hJ := hI.2.1.2
  unfold pX4_differ pX4_differ_b20
  refine e_isKnowing hI hC e (fun he => ⟨fun c => absurd c (by decide), fun _ => ?_⟩) (fun he => ⟨fun _ => h0 (fun q => he q.1), fun c => absurd rfl c⟩)
  refine e_isKnowing hI hC f (fun hf => ⟨fun c => absurd c (by decide), fun _ => ⟨fun c => ?_, fun c => h0 ?_⟩⟩) (fun hf => ⟨fun _ => h0 (fun q => hf q.2.1), fun c => absurd rfl c⟩)
  · have hi : 0 ≤ i.toInt := by simp only [q_le, Int32.reduceToInt] at c; omega
    have hp := h1 ⟨he, hf, hi⟩
    obtain ⟨hn, hnE⟩ := isK_ok hI he
    obtain ⟨hk, hkE⟩ := isK_ok hI hf
    rw [hC.s 1, hI.2.1.1]
    generalize e.toNatClampNeg = n at *
    generalize f.toNatClampNeg = k at *
    subst hn hk
    refine e_draw hI hC hnE fun u hB => ?_
    rw [hB.1.1.s 1, hI.2.1.1]
    refine e_drawo hI hB.1.1 hkE fun v hBo => ?_
    have hCv : Cr m v := hBo.1.1
    have p1 : ∀ j, j < 24 → v.2 11 j = pl m n j := fun j hj => by rw [hBo.1.2.2 11 (by decide) (by decide)]; exact hB.2.2.2.2.1 j hj
    have p2 : ∀ j, j < 24 → v.2 16 j = pl m k j := hBo.2.2.2.2.1
    have hp := hp v hCv
    unfold pX4_differ_l62
    refine lp_intro (fun (a : Int32 × Int32 × Int32) (w : Sg) => w = v ∧ a.1 = i ∧ ∃ j : Nat, j ≤ nJ m ∧ a.2.2 = nI j ∧ srn (dfp m n k) i (nJ m) 0 0 = srn (dfp m n k) i (nJ m - j) j a.2.1) (fun a _ => 24 - a.2.2.toNatClampNeg) ?_ _ _ ⟨rfl, rfl, 0, by omega, rfl, rfl⟩
    rintro K ⟨a, b, d⟩ w ⟨rfl, ha, j, hj, hd, hs⟩ ih
    simp only at ha hd hs ih ⊢
    subst ha hd
    have e := q_nI (n := j) (by omega)
    have e1 := q_nI (n := j + 1) (by omega)
    have eJ := iv_J hI hCv
    unfold pX4_differ_b62 pX4_differ_b104
    refine ⟨fun c => ?_, fun c => ?_⟩
    · simp only [q_le, e, eJ] at c
      rw [hs, show nJ m - j = 0 by omega] at hp
      exact hp
    · simp only [q_le, e, eJ] at c
      have st : srn (dfp m n k) a (nJ m - j) j b = if dfp m n k j then (if b = a then nI j else srn (dfp m n k) a (nJ m - (j + 1)) (j + 1) (b + 1)) else srn (dfp m n k) a (nJ m - (j + 1)) (j + 1) b := by
        rw [show nJ m - j = (nJ m - (j + 1)) + 1 by omega]
        rfl
      have hm : 24 - (nI j + 1).toNatClampNeg < 24 - (nI j).toNatClampNeg := by simp only [nI_1, q_cl e, q_cl e1]; omega
      refine e_placeOf p1 j (by omega) (e_placeOfo p2 j (by omega) ⟨fun c1 => ?_, fun c1 => ?_⟩)
      · have : dfp m n k j = false := by simp [dfp, c1]
        exact ih _ _ ⟨rfl, rfl, j + 1, by omega, nI_1 j, by rw [hs, st, this]; rfl⟩ hm
      · have hd : dfp m n k j = true := by simp [dfp, c1]
        refine ⟨fun c2 => ?_, fun c2 => ?_⟩
        · exact ih _ _ ⟨rfl, rfl, j + 1, by omega, nI_1 j, by rw [hs, st, hd, if_neg c2]; rfl⟩ hm
        · rw [hs, st, hd, if_pos c2] at hp
          exact hp
  · simp only [q_le, Int32.reduceToInt] at c; rintro ⟨-, -, h⟩; omega
def cntR (m : Sg) (w : Int32) : Int32 :=
  if w = 0 then m.1 1 else if w = 1 then m.1 11 else if w = 2 then m.1 2 else if w = 3 then m.1 5 else if w = 4 then nI (ct (on m (nE m)) 24) else if w = 5 then nI (ct (th m (nE m)) 24)
  else if w = 6 then m.1 0 else if 10 ≤ w.toInt ∧ w.toInt ≤ 14 then m.2 6 (w.toInt - 10).toNat else -10000
theorem c_count {post : Int32 → Sg → Prop} (hI : iv m) (hC : Cr m z) (w : Int32) (h : ∀ z', Cr m z' → post (cntR m w) z') : pX4_count w z post := by
  unfold pX4_count pX4_count_b176 pX4_count_b179
  unfold cntR at h
  refine ⟨fun c => ?_, fun d0 => ⟨fun c => ?_, fun d1 => ⟨fun c => ?_, fun d2 => ⟨fun c => ?_, fun d3 => ⟨fun c => ?_, fun d4 => ⟨fun c => ?_, fun d5 => ⟨fun c => ?_, fun d6 => ⟨fun c => ?_, fun c => ?_⟩⟩⟩⟩⟩⟩⟩⟩
  · rw [if_pos c] at h; rw [hC.s 1]; exact h _ hC
  · rw [if_neg d0, if_pos c] at h; rw [hC.s 11]; exact h _ hC
  · rw [if_neg d0, if_neg d1, if_pos c] at h; rw [hC.s 2]; exact h _ hC
  · rw [if_neg d0, if_neg d1, if_neg d2, if_pos c] at h; rw [hC.s 5]; exact h _ hC
  · rw [if_neg d0, if_neg d1, if_neg d2, if_neg d3, if_pos c] at h
    rw [hC.s 11, hI.2.2.1.1, hC.s 1, hI.2.1.1]
    refine e_draw hI hC (Nat.le_refl _) fun u hB => ?_
    rw [hB.2.2.2.2.2.2.1]
    exact h _ hB.1.1
  · rw [if_neg d0, if_neg d1, if_neg d2, if_neg d3, if_neg d4, if_pos c] at h
    rw [hC.s 11, hI.2.2.1.1, hC.s 1, hI.2.1.1]
    refine e_draw hI hC (Nat.le_refl _) fun u hB => ?_
    rw [hB.2.2.2.2.2.2.2]
    exact h _ hB.1.1
  · rw [if_neg d0, if_neg d1, if_neg d2, if_neg d3, if_neg d4, if_neg d5, if_pos c] at h; rw [hC.s 0]; exact h _ hC
  · rw [if_neg d0, if_neg d1, if_neg d2, if_neg d3, if_neg d4, if_neg d5, if_neg d6] at h
    simp only [q_lt, Int32.reduceToInt] at c
    rw [if_neg (by omega)] at h
    exact h _ hC
  · rw [if_neg d0, if_neg d1, if_neg d2, if_neg d3, if_neg d4, if_neg d5, if_neg d6] at h
    simp only [q_lt, Int32.reduceToInt] at c
    obtain ⟨k, rfl, hk⟩ := q_nn (x := w) (by omega)
    have hb := Int32.toInt_lt (nI k)
    have es : nI k - 10 = nI (k - 10) := by rw [show (10 : Int32) = nI 10 from rfl]; exact pk_sub (by omega)
    have ek := q_nI (n := k - 10) (by omega)
    rw [es]
    refine e_isSensor _ (fun hs => ⟨fun c => absurd c (by decide), fun _ => ⟨q_in ek (by omega), ?_⟩⟩) (fun hs => ⟨fun _ => ?_, fun c => absurd rfl c⟩)
    · rw [if_pos (by omega)] at h
      unfold gA
      rw [hC.a 6, q_cl ek]
      have := h _ hC
      rw [hk] at this
      rw [show ((k : Int) - 10).toNat = k - 10 by omega] at this
      exact this
    · rw [if_neg (by omega)] at h
      exact h _ hC
end MORE
