abbrev isJ (m : Sg) (j : Int32) : Prop := 0 ≤ j.toInt ∧ j.toInt < (nJ m : Int)
abbrev isK (m : Sg) (e : Int32) : Prop := 0 ≤ e.toInt ∧ e.toInt ≤ (nE m : Int)
abbrev isR (x : Int32) : Prop := 0 ≤ x.toInt ∧ x.toInt ≤ 1
abbrev isT (x : Int32) : Prop := 0 ≤ x.toInt ∧ x.toInt ≤ 5
abbrev isG (x : Int32) : Prop := 1 ≤ x.toInt ∧ x.toInt ≤ 50
abbrev isM (x : Int32) : Prop := 0 ≤ x.toInt ∧ x.toInt ≤ 40
abbrev isW (x : Int32) : Prop := x = -10000 ∨ (-999 ≤ x.toInt ∧ x.toInt ≤ 999)
/-- the state with one entry more -/
def addM (m : Sg) (s q a b c d e : Int32) : Sg := sS (sA (sA (sA (sA (sA (sA (sA m 3 (m.1 11) s) 4 (m.1 11) q) 5 (m.1 11 * 5) a) 5 (m.1 11 * 5 + 1) b) 5 (m.1 11 * 5 + 2) c) 5 (m.1 11 * 5 + 3) d) 5 (m.1 11 * 5 + 4) e) 11 (m.1 11 + 1)
section CLS
variable {m z : Sg}
theorem iv_J (hI : iv m) (hC : Cr m z) : (z.1 1).toInt = (nJ m : Int) := by rw [hC.s 1, hI.2.1.1]; have := hI.2.1.2; exact q_nI (by omega)
theorem iv_E (hI : iv m) (hC : Cr m z) : (z.1 11).toInt = (nE m : Int) := by rw [hC.s 11, hI.2.2.1.1]; have := hI.2.2.1.2; exact q_nI (by omega)
theorem iv_T (hI : iv m) (hC : Cr m z) : (z.1 0).toInt = (nT m : Int) := by rw [hC.s 0, hI.1.1]; have := hI.1.2; exact q_nI (by omega)
theorem e_isTeam {post : Int32 → Sg → Prop} (a : Int32) (h1 : isT a → post 1 z) (h0 : ¬ isT a → post 0 z) : pX4_isTeam a z post := by
  unfold pX4_isTeam pX4_isTeam_b14 pX4_isTeam_b15
  refine ⟨fun c => ⟨Or.inl rfl, h0 ?_⟩, fun c => ⟨fun d => ⟨Or.inl rfl, h0 ?_⟩, fun d => ⟨Or.inr rfl, h1 ?_⟩⟩⟩ <;> simp only [q_lt, q_le, Int32.reduceToInt] at * <;> omega
theorem e_isSensor {post : Int32 → Sg → Prop} (a : Int32) (h1 : 0 ≤ a.toInt ∧ a.toInt ≤ 4 → post 1 z) (h0 : ¬ (0 ≤ a.toInt ∧ a.toInt ≤ 4) → post 0 z) : pX4_isSensor a z post := by
  unfold pX4_isSensor pX4_isSensor_b13 pX4_isSensor_b14
  refine ⟨fun c => ⟨Or.inl rfl, h0 ?_⟩, fun c => ⟨fun d => ⟨Or.inl rfl, h0 ?_⟩, fun d => ⟨Or.inr rfl, h1 ?_⟩⟩⟩ <;> simp only [q_lt, q_le, Int32.reduceToInt] at * <;> omega
theorem e_isGate {post : Int32 → Sg → Prop} (a : Int32) (h1 : isG a → post 1 z) (h0 : ¬ isG a → post 0 z) : pX4_isGate a z post := by
  unfold pX4_isGate pX4_isGate_b15 pX4_isGate_b16
  refine ⟨fun c => ⟨Or.inl rfl, h0 ?_⟩, fun c => ⟨fun d => ⟨Or.inl rfl, h0 ?_⟩, fun d => ⟨Or.inr rfl, h1 ?_⟩⟩⟩ <;> simp only [q_lt, q_le, Int32.reduceToInt] at * <;> omega
theorem e_isRound {post : Int32 → Sg → Prop} (a : Int32) (h1 : isR a → post 1 z) (h0 : ¬ isR a → post 0 z) : pX4_isRound a z post := by
  unfold pX4_isRound pX4_isRound_b13 pX4_isRound_b14
  refine ⟨fun c => ⟨Or.inl rfl, h0 ?_⟩, fun c => ⟨fun d => ⟨Or.inl rfl, h0 ?_⟩, fun d => ⟨Or.inr rfl, h1 ?_⟩⟩⟩ <;> simp only [q_lt, q_le, Int32.reduceToInt] at * <;> omega
theorem e_isMark {post : Int32 → Sg → Prop} (a : Int32) (h1 : isM a → post 1 z) (h0 : ¬ isM a → post 0 z) : pX4_isMark a z post := by
  unfold pX4_isMark pX4_isMark_b14 pX4_isMark_b15
  refine ⟨fun c => ⟨Or.inl rfl, h0 ?_⟩, fun c => ⟨fun d => ⟨Or.inl rfl, h0 ?_⟩, fun d => ⟨Or.inr rfl, h1 ?_⟩⟩⟩ <;> simp only [q_lt, q_le, Int32.reduceToInt] at * <;> omega
theorem e_isWind {post : Int32 → Sg → Prop} (a : Int32) (h1 : isW a → post 1 z) (h0 : ¬ isW a → post 0 z) : pX4_isWind a z post := by
  unfold pX4_isWind pX4_isWind_b21 pX4_isWind_b25 pX4_isWind_b26
  refine ⟨fun c => ⟨Or.inr rfl, h1 (Or.inl c)⟩, fun c => ⟨fun d => ⟨Or.inl rfl, h0 ?_⟩, fun d => ⟨fun f => ⟨Or.inl rfl, h0 ?_⟩, fun f => ⟨Or.inr rfl, h1 (Or.inr ?_)⟩⟩⟩⟩
  · rintro (h | h)
    · exact c h
    · simp only [q_lt, q_m999] at d; omega
  · rintro (h | h)
    · exact c h
    · simp only [q_lt, Int32.reduceToInt] at f; omega
  · simp only [q_lt, q_m999, Int32.reduceToInt] at d f; omega
theorem e_isJumper {post : Int32 → Sg → Prop} (hI : iv m) (hC : Cr m z) (a : Int32) (h1 : isJ m a → post 1 z) (h0 : ¬ isJ m a → post 0 z) : pX4_isJumper a z post := by
  have eJ := iv_J hI hC
  have hJ := hI.2.1.2
  unfold pX4_isJumper pX4_isJumper_b22 pX4_isJumper_b23
  refine ⟨fun c => ⟨Or.inl rfl, h0 ?_⟩, fun c => ⟨fun d => ⟨Or.inl rfl, h0 ?_⟩, fun d => ⟨fun f => ⟨Or.inl rfl, h0 ?_⟩, fun f => ⟨Or.inr rfl, h1 ?_⟩⟩⟩⟩ <;> simp only [q_lt, q_le, eJ, Int32.reduceToInt] at * <;> omega
theorem e_isKnowing {post : Int32 → Sg → Prop} (hI : iv m) (hC : Cr m z) (a : Int32) (h1 : isK m a → post 1 z) (h0 : ¬ isK m a → post 0 z) : pX4_isKnowing a z post := by
  have eE := iv_E hI hC
  unfold pX4_isKnowing pX4_isKnowing_b22 pX4_isKnowing_b23
  refine ⟨fun c => ⟨Or.inl rfl, h0 ?_⟩, fun c => ⟨fun d => ⟨Or.inl rfl, h0 ?_⟩, fun d => ⟨Or.inr rfl, h1 ?_⟩⟩⟩ <;> simp only [q_lt, q_le, eE, Int32.reduceToInt] at * <;> omega
theorem e_add {post : Int32 → Sg → Prop} (hI : iv m) (hC : Cr m z) (s q a b c d e : Int32) (h1 : nE m < 200 → ∀ z', Cr (addM m s q a b c d e) z' → post (m.1 11) z') (h0 : ¬ nE m < 200 → post (-10000) z) : pX1_add s q a b c d e z post := by
  have eE := iv_E hI hC
  have eM : (m.1 11).toInt = (nE m : Int) := iv_E hI (Cr.rf m)
  have h5 : ∀ i : Nat, i < 5 → nE m < 200 → vp_in (m.1 11 * 5 + nI i) 1000 := fun i hi hE => by
    rw [q_of eM, show (5 : Int32) = nI 5 from rfl, pk_mul, nI_add]
    exact q_in (q_nI (by omega)) (by omega)
  unfold pX1_add pX1_add_b17
  refine ⟨fun c1 => ?_, fun c1 => ⟨fun c2 => ?_, fun c2 => h0 ?_⟩⟩
  · simp only [q_lt, eE, Int32.reduceToInt] at c1; omega
  · simp only [q_lt, eE, Int32.reduceToInt] at c2
    have hE : nE m < 200 := by omega
    rw [hC.s 11]
    intro v hv v4 hv4
    subst hv hv4
    refine ⟨q_in eM hE, q_in eM hE, fun w8 hw8 => ⟨?_, h5 1 (by omega) hE, fun w11 hw11 => ⟨h5 2 (by omega) hE, h5 3 (by omega) hE, fun w14 hw14 => ⟨h5 4 (by omega) hE, h1 hE _ ?_⟩⟩⟩⟩
    · have := h5 0 (by omega) hE
      rw [nI_0, Int32.add_zero] at this
      exact this
    · rw [hw14, hw11, hw8]
      exact ((((((((hC.uA 3 _ _).uA 4 _ _).uA 5 _ _).uA 5 _ _).uA 5 _ _).uA 5 _ _).uA 5 _ _)).uS 11 _
  · simp only [q_lt, eE, Int32.reduceToInt] at c2; omega
def rReading (m : Sg) (j r l g : Int32) : Int32 := if (isJ m j ∧ isR r ∧ (0 ≤ l.toInt ∧ l.toInt ≤ 600) ∧ isG g) ∧ nE m < 200 then m.1 11 else -10000
def cb (x : Int32) : Int32 := if x = 0 then 0 else 1
def mReading (m : Sg) (j r l g c : Int32) : Sg := if (isJ m j ∧ isR r ∧ (0 ≤ l.toInt ∧ l.toInt ≤ 600) ∧ isG g) ∧ nE m < 200 then addM m 0 (r * 24 + j) l g (cb c) 0 0 else m
theorem c_reading {post : Int32 → Sg → Prop} (hI : iv m) (hC : Cr m z) (j r l g c : Int32) (h : ∀ z', Cr (mReading m j r l g c) z' → post (rReading m j r l g) z') : pX4_reading j r l g c z post := by
  have no : ¬ (isJ m j ∧ isR r ∧ (0 ≤ l.toInt ∧ l.toInt ≤ 600) ∧ isG g) → post (-10000) z := fun hn => by
    have := h z (by unfold mReading; rw [if_neg (fun q => hn q.1)]; exact hC)
    unfold rReading at this
    rw [if_neg (fun q => hn q.1)] at this
    exact this
  unfold pX4_reading pX4_reading_b36 pX4_reading_b66 pX4_jumpOf
  refine e_isJumper hI hC j (fun h1 => ⟨fun c => absurd c (by decide), fun _ => ?_⟩) (fun h1 => ⟨fun _ => no (fun q => h1 q.1), fun c => absurd rfl c⟩)
  refine e_isRound r (fun h2 => ⟨fun c => absurd c (by decide), fun _ => ⟨fun c => no ?_, fun c1 => ⟨fun c => no ?_, fun c2 => ?_⟩⟩⟩) (fun h1 => ⟨fun _ => no (fun q => h1 q.2.1), fun c => absurd rfl c⟩)
  · simp only [q_lt, Int32.reduceToInt] at c; rintro ⟨-, -, h3, -⟩; omega
  · simp only [q_lt, Int32.reduceToInt] at c; rintro ⟨-, -, h3, -⟩; omega
  · have h3 : 0 ≤ l.toInt ∧ l.toInt ≤ 600 := by simp only [q_lt, Int32.reduceToInt] at c1 c2; omega
    refine e_isGate g (fun h4 => ⟨fun _ => ?_, fun c => absurd c (by decide)⟩) (fun h4 => ⟨fun c => absurd rfl c, fun _ => no (fun q => h4 q.2.2.2)⟩)
    have fin : ∀ x : Int32, x = cb c → pX1_add 0 (r * 24 + j) l g x 0 0 z (fun r2 u1 => post r2 u1) := fun x hx => by
      subst hx
      refine e_add hI hC _ _ _ _ _ _ _ (fun hE z' hz => ?_) (fun hE => ?_)
      · have := h z' (by unfold mReading; rw [if_pos ⟨⟨h1, h2, h3, h4⟩, hE⟩]; exact hz)
        unfold rReading at this
        rw [if_pos ⟨⟨h1, h2, h3, h4⟩, hE⟩] at this
        exact this
      · have := h z (by unfold mReading; rw [if_neg (fun q => hE q.2)]; exact hC)
        unfold rReading at this
        rw [if_neg (fun q => hE q.2)] at this
        exact this
    exact ⟨fun c0 => fin 0 (by unfold cb; rw [if_pos c0]), fun c0 => fin 1 (by unfold cb; rw [if_neg c0])⟩
/-- the jump that a coded jumper means: round times 24 and its number -/
abbrev isC (m : Sg) (j : Int32) : Prop := isJ m j ∨ isJ m (j - 32)
def qC (m : Sg) (j : Int32) : Int32 := if j < 32 then j else 1 * 24 + (j - 32)
theorem c_addToJump {post : Int32 → Sg → Prop} (hI : iv m) (hC : Cr m z) (s j a b c d e : Int32) (h1 : isC m j → nE m < 200 → ∀ z', Cr (addM m s (qC m j) a b c d e) z' → post (m.1 11) z') (h0 : ¬ (isC m j ∧ nE m < 200) → post (-10000) z) : pX4_addToJump s j a b c d e z post := by
  have hJ := hI.2.1.2
  have sub32 : ¬ j < 32 → (j - 32).toInt = j.toInt - 32 := fun hj => by
    simp only [q_lt, Int32.reduceToInt] at hj
    obtain ⟨k, rfl, hk⟩ := q_nn (x := j) (by omega)
    have hb := Int32.toInt_lt (nI k)
    have : nI k - 32 = nI (k - 32) := by rw [show (32 : Int32) = nI 32 from rfl]; exact pk_sub (by omega)
    rw [this, q_nI (by omega), hk]
    omega
  unfold pX4_addToJump pX4_addToJump_b11 pX4_jumpOf
  refine ⟨fun c v hv => ?_, fun c v hv => ?_⟩
  · have hv : v = j := by rw [hv]; simp
    subst hv
    have hq : qC m v = 0 * 24 + v := by unfold qC; rw [if_pos c]; simp
    have hn : isC m v → isJ m v := fun q => q.elim id (fun q => by
      -- j - 32 with j small cannot be a jumper's number
      exfalso
      simp only [q_lt, Int32.reduceToInt] at c
      obtain ⟨k, hk, hk2⟩ := q_nn (x := v - 32) q.1
      have h2 : v = nI (k + 32) := by rw [← nI_add, ← hk]; simp [show nI 32 = (32 : Int32) from rfl]
      rw [h2, q_nI (by omega)] at c
      omega)
    refine e_isJumper hI hC v (fun hj => ⟨fun _ => ?_, fun c => absurd c (by decide)⟩) (fun hj => ⟨fun c => absurd rfl c, fun _ => h0 (fun q => hj (hn q.1))⟩)
    rw [← hq]
    exact e_add hI hC _ _ _ _ _ _ _ (fun hE z' hz => h1 (Or.inl hj) hE z' hz) (fun hE => h0 (fun q => hE q.2))
  · have hv : v = j - 32 := by rw [hv]; simp
    subst hv
    have hq : qC m j = 1 * 24 + (j - 32) := by unfold qC; rw [if_neg c]
    have hn : isC m j → isJ m (j - 32) := fun q => q.elim (fun q => by
      exfalso
      simp only [q_lt, Int32.reduceToInt] at c
      have := q.2
      omega) id
    refine e_isJumper hI hC (j - 32) (fun hj => ⟨fun _ => ?_, fun c => absurd c (by decide)⟩) (fun hj => ⟨fun c => absurd rfl c, fun _ => h0 (fun q => hj (hn q.1))⟩)
    rw [← hq]
    exact e_add hI hC _ _ _ _ _ _ _ (fun hE z' hz => h1 (Or.inr hj) hE z' hz) (fun hE => h0 (fun q => hE q.2))
abbrev okWind (m : Sg) (j a b c d e : Int32) : Prop := (isW a ∧ isW b ∧ isW c ∧ isW d ∧ isW e) ∧ isC m j ∧ nE m < 200
abbrev okStyle (m : Sg) (j a b c d e : Int32) : Prop := (isM a ∧ isM b ∧ isM c ∧ isM d ∧ isM e) ∧ isC m j ∧ nE m < 200
theorem c_wind {post : Int32 → Sg → Prop} (hI : iv m) (hC : Cr m z) (j a b c d e : Int32) (h1 : okWind m j a b c d e → ∀ z', Cr (addM m 1 (qC m j) a b c d e) z' → post (m.1 11) z') (h0 : ¬ okWind m j a b c d e → post (-10000) z) : pX4_wind j a b c d e z post := by
  unfold pX4_wind pX4_wind_b43
  refine e_isWind a (fun ha => ⟨fun c => absurd c (by decide), fun _ => ?_⟩) (fun ha => ⟨fun _ => h0 (fun q => ha q.1.1), fun c => absurd rfl c⟩)
  refine e_isWind b (fun hb => ⟨fun c => absurd c (by decide), fun _ => ?_⟩) (fun hb => ⟨fun _ => h0 (fun q => hb q.1.2.1), fun c => absurd rfl c⟩)
  refine e_isWind c (fun hc => ⟨fun c => absurd c (by decide), fun _ => ?_⟩) (fun hc => ⟨fun _ => h0 (fun q => hc q.1.2.2.1), fun c => absurd rfl c⟩)
  refine e_isWind d (fun hd => ⟨fun c => absurd c (by decide), fun _ => ?_⟩) (fun hd => ⟨fun _ => h0 (fun q => hd q.1.2.2.2.1), fun c => absurd rfl c⟩)
  refine e_isWind e (fun he => ⟨fun _ => ?_, fun c => absurd c (by decide)⟩) (fun he => ⟨fun c => absurd rfl c, fun _ => h0 (fun q => he q.1.2.2.2.2)⟩)
  exact c_addToJump hI hC _ _ _ _ _ _ _ (fun hj hE z' hz => h1 ⟨⟨ha, hb, hc, hd, he⟩, hj, hE⟩ z' hz) (fun hn => h0 (fun q => hn q.2))
theorem c_style {post : Int32 → Sg → Prop} (hI : iv m) (hC : Cr m z) (j a b c d e : Int32) (h1 : okStyle m j a b c d e → ∀ z', Cr (addM m 2 (qC m j) a b c d e) z' → post (m.1 11) z') (h0 : ¬ okStyle m j a b c d e → post (-10000) z) : pX4_style j a b c d e z post := by
  unfold pX4_style pX4_style_b43
  refine e_isMark a (fun ha => ⟨fun c => absurd c (by decide), fun _ => ?_⟩) (fun ha => ⟨fun _ => h0 (fun q => ha q.1.1), fun c => absurd rfl c⟩)
  refine e_isMark b (fun hb => ⟨fun c => absurd c (by decide), fun _ => ?_⟩) (fun hb => ⟨fun _ => h0 (fun q => hb q.1.2.1), fun c => absurd rfl c⟩)
  refine e_isMark c (fun hc => ⟨fun c => absurd c (by decide), fun _ => ?_⟩) (fun hc => ⟨fun _ => h0 (fun q => hc q.1.2.2.1), fun c => absurd rfl c⟩)
  refine e_isMark d (fun hd => ⟨fun c => absurd c (by decide), fun _ => ?_⟩) (fun hd => ⟨fun _ => h0 (fun q => hd q.1.2.2.2.1), fun c => absurd rfl c⟩)
  refine e_isMark e (fun he => ⟨fun _ => ?_, fun c => absurd c (by decide)⟩) (fun he => ⟨fun c => absurd rfl c, fun _ => h0 (fun q => he q.1.2.2.2.2)⟩)
  exact c_addToJump hI hC _ _ _ _ _ _ _ (fun hj hE z' hz => h1 ⟨⟨ha, hb, hc, hd, he⟩, hj, hE⟩ z' hz) (fun hn => h0 (fun q => hn q.2))
end CLS
