section MCL
variable {m y : Sg} {n : Nat}
theorem g_isMark {post : Int32 → Sg → Prop} (a : Int32) (h1 : isM a → post 1 y) (h0 : ¬ isM a → post 0 y) : pX5_isMark a y post := by
  unfold pX5_isMark
  refine g_lies _ _ _ (fun c => ⟨Or.inr rfl, h1 c⟩) (fun c => ⟨Or.inl rfl, h0 c⟩)
theorem g_isWind {post : Int32 → Sg → Prop} (a : Int32) (h1 : isW a → post 1 y) (h0 : ¬ isW a → post 0 y) : pX5_isWind a y post := by
  unfold pX5_isWind pX5_isWind_b20 pX5_isWind_b25
  refine ⟨fun c => ⟨Or.inr rfl, h1 (Or.inl c)⟩, fun c => g_lies _ _ _ (fun d => ⟨fun f => absurd f (by decide), fun _ => ⟨Or.inr rfl, h1 (Or.inr ?_)⟩⟩) (fun d => ⟨fun _ => ⟨Or.inl rfl, h0 ?_⟩, fun f => absurd rfl f⟩)⟩
  · rw [q_m999] at d; exact d
  · rw [q_m999] at d
    rintro (h | h)
    · exact c h
    · exact d h
theorem g_isJump {post : Int32 → Sg → Prop} (hI : iv m) (hM : Mr m y) (a : Int32) (h1 : isC m a → post 1 y) (h0 : ¬ isC m a → post 0 y) : pX5_isJump a y post := by
  unfold pX5_isJump pX5_isJump_b19 pX5_isJump_b24
  refine g_isJumper hI hM a (fun c => ⟨fun _ => ⟨Or.inr rfl, h1 (Or.inl c)⟩, fun f => absurd f (by decide)⟩) (fun c => ⟨fun f => absurd rfl f, fun _ => ?_⟩)
  exact g_isJumper hI hM (a - 32) (fun d => ⟨fun f => absurd f (by decide), fun _ => ⟨Or.inr rfl, h1 (Or.inr d)⟩⟩) (fun d => ⟨fun _ => ⟨Or.inl rfl, h0 (fun q => q.elim c d)⟩, fun f => absurd rfl f⟩)
theorem full (hI : iv m) (hM : Mr m y) : y.1 2 = 200 ↔ ¬ nE m < 200 := by
  have hE := hI.2.2.1.2
  rw [q_eq, hM.E hI, show (200 : Int32).toInt = 200 by decide]
  omega
abbrev okReading (m : Sg) (j r l g : Int32) : Prop := (isJ m j ∧ isR r ∧ (0 ≤ l.toInt ∧ l.toInt ≤ 600) ∧ isG g) ∧ nE m < 200
theorem jm_jq (hI : iv m) {j r : Int32} (hj : isJ m j) (hr : isR r) : j + 32 * r = nI (jm (jq j r)) := by
  have hJ := hI.2.1.2
  obtain ⟨-, hq, -, ej, hjJ, hr01⟩ := jq_ok hI hj hr
  obtain ⟨b, rfl, hb⟩ := q_nn hr.1
  rw [q_cl hb] at hr01
  unfold jm jq
  rw [q_cl hb]
  generalize j.toNatClampNeg = k at *
  subst ej
  rw [show (32 : Int32) = nI 32 from rfl, pk_mul, nI_add]
  rcases hr01 with h | h <;> subst h
  · rw [show k + 32 * 0 = (24 * 0 + k) % 24 + 32 * ((24 * 0 + k) / 24) by omega]
  · rw [show k + 32 * 1 = (24 * 1 + k) % 24 + 32 * ((24 * 1 + k) / 24) by omega]
theorem g_reading {post : Int32 → Sg → Prop} (hI : iv m) (hM : Mr m y) (j r l g c : Int32) (h1 : okReading m j r l g → ∀ y', Mr (addM m 0 (r * 24 + j) l g (cb c) 0 0) y' → post (m.1 11) y') (h0 : ¬ okReading m j r l g → post (-10000) y) : pX5_reading j r l g c y post := by
  unfold pX5_reading pX5_reading_b49 pX5_reading_b74
  refine g_isJumper hI hM j (fun hj => ⟨fun c => absurd c (by decide), fun _ => ?_⟩) (fun hj => ⟨fun _ => h0 (fun q => hj q.1.1), fun c => absurd rfl c⟩)
  refine g_lies _ _ _ (fun hr => ⟨fun c => absurd c (by decide), fun _ => ?_⟩) (fun hr => ⟨fun _ => h0 (fun q => hr q.1.2.1), fun c => absurd rfl c⟩)
  refine g_lies _ _ _ (fun hl => ⟨fun c => absurd c (by decide), fun _ => ?_⟩) (fun hl => ⟨fun _ => h0 (fun q => hl q.1.2.2.1), fun c => absurd rfl c⟩)
  refine g_lies _ _ _ (fun hg => ⟨fun c => absurd c (by decide), fun _ => ⟨fun c2 => ?_, fun c2 => h0 (fun q => (full hI hM).mp c2 q.2)⟩⟩) (fun hg => ⟨fun _ => h0 (fun q => hg q.1.2.2.2), fun c => absurd rfl c⟩)
  have hE : nE m < 200 := Classical.byContradiction fun q => c2 ((full hI hM).mpr q)
  have hr : isR r := hr
  rw [jm_jq hI hj hr]
  have fin : ∀ x : Int32, x = cb c → pX5_tells 0 (nI (jm (jq j r))) l g x 0 0 y (fun r2 u1 => post r2 u1) := fun x hx => by
    subst hx
    obtain ⟨hq, hq48, -⟩ := jq_ok hI hj hr
    refine g_tells hI hM hE 0 _ _ _ _ _ _ hq48 fun y' hy => h1 ⟨⟨hj, hr, hl, hg⟩, hE⟩ y' ?_
    rw [hq]
    exact hy
  exact ⟨fun c0 => fin 0 (by unfold cb; rw [if_pos c0]), fun c0 => fin 1 (by unfold cb; rw [if_neg c0])⟩
theorem g_wind {post : Int32 → Sg → Prop} (hI : iv m) (hM : Mr m y) (j a b c d e : Int32) (h1 : okWind m j a b c d e → ∀ y', Mr (addM m 1 (qC m j) a b c d e) y' → post (m.1 11) y') (h0 : ¬ okWind m j a b c d e → post (-10000) y) : pX5_wind j a b c d e y post := by
  unfold pX5_wind pX5_wind_b56
  refine g_isJump hI hM j (fun hj => ⟨fun c => absurd c (by decide), fun _ => ?_⟩) (fun hj => ⟨fun _ => h0 (fun q => hj q.2.1), fun c => absurd rfl c⟩)
  refine g_isWind a (fun ha => ⟨fun c => absurd c (by decide), fun _ => ?_⟩) (fun ha => ⟨fun _ => h0 (fun q => ha q.1.1), fun c => absurd rfl c⟩)
  refine g_isWind b (fun hb => ⟨fun c => absurd c (by decide), fun _ => ?_⟩) (fun hb => ⟨fun _ => h0 (fun q => hb q.1.2.1), fun c => absurd rfl c⟩)
  refine g_isWind c (fun hc => ⟨fun c => absurd c (by decide), fun _ => ?_⟩) (fun hc => ⟨fun _ => h0 (fun q => hc q.1.2.2.1), fun c => absurd rfl c⟩)
  refine g_isWind d (fun hd => ⟨fun c => absurd c (by decide), fun _ => ?_⟩) (fun hd => ⟨fun _ => h0 (fun q => hd q.1.2.2.2.1), fun c => absurd rfl c⟩)
  refine g_isWind e (fun he => ⟨fun c => absurd c (by decide), fun _ => ⟨fun c2 => ?_, fun c2 => h0 (fun q => (full hI hM).mp c2 q.2.2)⟩⟩) (fun he => ⟨fun _ => h0 (fun q => he q.1.2.2.2.2), fun c => absurd rfl c⟩)
  have hE : nE m < 200 := Classical.byContradiction fun q => c2 ((full hI hM).mpr q)
  have h1 := h1 ⟨⟨ha, hb, hc, hd, he⟩, hj, hE⟩
  obtain ⟨q, hq, -, e1, e2⟩ := isC_ok hI hj
  rw [e1] at h1
  rw [e2]
  exact g_tells hI hM hE 1 q _ _ _ _ _ hq h1
theorem g_styl {post : Int32 → Sg → Prop} (hI : iv m) (hM : Mr m y) (j a b c d e : Int32) (h1 : okStyle m j a b c d e → ∀ y', Mr (addM m 2 (qC m j) a b c d e) y' → post (m.1 11) y') (h0 : ¬ okStyle m j a b c d e → post (-10000) y) : pX5_style j a b c d e y post := by
  unfold pX5_style pX5_style_b56
  refine g_isJump hI hM j (fun hj => ⟨fun c => absurd c (by decide), fun _ => ?_⟩) (fun hj => ⟨fun _ => h0 (fun q => hj q.2.1), fun c => absurd rfl c⟩)
  refine g_isMark a (fun ha => ⟨fun c => absurd c (by decide), fun _ => ?_⟩) (fun ha => ⟨fun _ => h0 (fun q => ha q.1.1), fun c => absurd rfl c⟩)
  refine g_isMark b (fun hb => ⟨fun c => absurd c (by decide), fun _ => ?_⟩) (fun hb => ⟨fun _ => h0 (fun q => hb q.1.2.1), fun c => absurd rfl c⟩)
  refine g_isMark c (fun hc => ⟨fun c => absurd c (by decide), fun _ => ?_⟩) (fun hc => ⟨fun _ => h0 (fun q => hc q.1.2.2.1), fun c => absurd rfl c⟩)
  refine g_isMark d (fun hd => ⟨fun c => absurd c (by decide), fun _ => ?_⟩) (fun hd => ⟨fun _ => h0 (fun q => hd q.1.2.2.2.1), fun c => absurd rfl c⟩)
  refine g_isMark e (fun he => ⟨fun c => absurd c (by decide), fun _ => ⟨fun c2 => ?_, fun c2 => h0 (fun q => (full hI hM).mp c2 q.2.2)⟩⟩) (fun he => ⟨fun _ => h0 (fun q => he q.1.2.2.2.2), fun c => absurd rfl c⟩)
  have hE : nE m < 200 := Classical.byContradiction fun q => c2 ((full hI hM).mpr q)
  have h1 := h1 ⟨⟨ha, hb, hc, hd, he⟩, hj, hE⟩
  obtain ⟨q, hq, -, e1, e2⟩ := isC_ok hI hj
  rw [e1] at h1
  rw [e2]
  exact g_tells hI hM hE 2 q _ _ _ _ _ hq h1
theorem g_strike {post : Int32 → Sg → Prop} (hI : iv m) (hM : Mr m y) (j r b : Int32) (h1 : okStrike m j r b → ∀ y', Mr (addM m 3 (r * 24 + j) (cb b) 0 0 0 0) y' → post (m.1 11) y') (h0 : ¬ okStrike m j r b → post (-10000) y) : pX5_strike j r b y post := by
  unfold pX5_strike pX5_strike_b45 pX5_strike_b66
  refine g_isJumper hI hM j (fun hj => ⟨fun c => absurd c (by decide), fun _ => ?_⟩) (fun hj => ⟨fun _ => h0 (fun q => hj q.1.1), fun c => absurd rfl c⟩)
  refine g_lies _ _ _ (fun hr => ⟨fun c => absurd c (by decide), fun _ => ⟨fun c2 => h0 (fun q => (full hI hM).mp c2 q.2.1), fun c2 => ?_⟩⟩) (fun hr => ⟨fun _ => h0 (fun q => hr q.1.2), fun c => absurd rfl c⟩)
  have hE : nE m < 200 := Classical.byContradiction fun q => c2 ((full hI hM).mpr q)
  have hr : isR r := hr
  rw [jm_jq hI hj hr, hM.1.2.2.1, hI.2.2.1.1]
  obtain ⟨hq, hq48, -⟩ := jq_ok hI hj hr
  refine g_isStruck hI hM (Nat.le_refl _) _ hq48 ⟨fun c => ?_, fun c => h0 (fun q => q.2.2 c)⟩
  have fin : ∀ x : Int32, x = cb b → pX5_tells 3 (nI (jm (jq j r))) x 0 0 0 0 y (fun r2 u1 => post r2 u1) := fun x hx => by
    subst hx
    refine g_tells hI hM hE 3 _ _ _ _ _ _ hq48 fun y' hy => h1 ⟨⟨hj, hr⟩, hE, c⟩ y' ?_
    rw [hq]
    exact hy
  exact ⟨fun c0 => fin 0 (by unfold cb; rw [if_pos c0]), fun c0 => fin 1 (by unfold cb; rw [if_neg c0])⟩
theorem pts_raw {q k : Nat} (hl : lst m 0 q n = some k) : pts m q n = imax 0 (raw m q n k) := by unfold pts; rw [hl]
theorem g_points {post : Int32 → Sg → Prop} (hI : iv m) (hM : Mr m y) (e j r w : Int32)
    (h7 : okPoints m e j r w → w = 7 → post (mea m (lst m 1 (jq j r) e.toNatClampNeg)) y)
    (hN : okPoints m e j r w → ¬ w = 7 → hs m (jq j r) e.toNatClampNeg = false → post (-10000) y)
    (hP : okPoints m e j r w → ¬ w = 7 → ∀ k, lst m 0 (jq j r) e.toNatClampNeg = some k → hs m (jq j r) e.toNatClampNeg = true → post (part m (jq j r) e.toNatClampNeg k w) y)
    (h0 : ¬ okPoints m e j r w → post (-10000) y) : pX5_points e j r w y post := by
  unfold pX5_points pX5_points_b36 pX5_points_b129
  refine g_isKnowing hI hM e (fun he => ⟨fun c => absurd c (by decide), fun _ => ?_⟩) (fun he => ⟨fun _ => h0 (fun q => he q.1), fun c => absurd rfl c⟩)
  refine g_isJumper hI hM j (fun hj => ⟨fun c => absurd c (by decide), fun _ => ?_⟩) (fun hj => ⟨fun _ => h0 (fun q => hj q.2.1), fun c => absurd rfl c⟩)
  refine g_lies _ _ _ (fun hr => ⟨fun c => absurd c (by decide), fun _ => ?_⟩) (fun hr => ⟨fun _ => h0 (fun q => hr q.2.2.1), fun c => absurd rfl c⟩)
  refine g_lies _ _ _ (fun hw => ⟨fun _ v hv => ?_, fun c => absurd c (by decide)⟩) (fun hw => ⟨fun c => absurd rfl c, fun _ => h0 (fun q => hw q.2.2.2)⟩)
  have hr : isR r := hr
  have hw : 0 ≤ w.toInt ∧ w.toInt ≤ 7 := hw
  have ok : okPoints m e j r w := ⟨he, hj, hr, hw⟩
  rw [jm_jq hI hj hr] at hv
  subst hv
  obtain ⟨-, hq48, -⟩ := jq_ok hI hj hr
  obtain ⟨hn, hnE⟩ := isK_ok hI he
  generalize jq j r = q at *
  generalize e.toNatClampNeg = n at *
  subst hn
  refine ⟨fun c7 => g_has hI hM hnE q hq48 ⟨fun c => ?_, fun c => hN ok c7 (b2_eq c)⟩, fun c7 => g_mean hI hM hnE q hq48 (h7 ok c7)⟩
  have hh := b2_ne c
  obtain ⟨k, hl⟩ := hs_lst hh
  have hp := hP ok c7 k hl hh
  obtain ⟨t, rfl, ht⟩ := q_nn hw.1
  have hw2 := hw.2
  rw [ht] at hw2
  have eq0 : ∀ i : Nat, i < 8 → (nI t = nI i ↔ t = i) := fun i hi => nI_eq (by omega) (by omega)
  have e0 : nI t = 0 ↔ t = 0 := eq0 0 (by omega)
  have e1 : nI t = 1 ↔ t = 1 := eq0 1 (by omega)
  have e2 : nI t = 2 ↔ t = 2 := eq0 2 (by omega)
  have e3 : nI t = 3 ↔ t = 3 := eq0 3 (by omega)
  have e4 : nI t = 4 ↔ t = 4 := eq0 4 (by omega)
  have e5 : nI t = 5 ↔ t = 5 := eq0 5 (by omega)
  have e7 : nI t = 7 ↔ t = 7 := eq0 7 (by omega)
  unfold part at hp
  simp only [e0, e1, e2, e3, e4, e5] at hp
  rw [e7] at c7
  refine ⟨fun c0 => ⟨fun c5 => ?_, fun c5 => ?_⟩, fun c0 => g_all hI hM hnE q hq48 hh ?_⟩
  · rw [e0] at c0
    simp only [q_le, ht, Int32.reduceToInt] at c5
    refine g_all hI hM hnE q hq48 hh ?_
    have hsub : nI t - 2 = nI (t - 2) := by rw [show (2 : Int32) = nI 2 from rfl, pk_sub (by omega)]
    rw [hsub]
    refine g_without hI hM hnE q hq48 hl (t - 2) (by omega) ?_
    rcases (show t = 5 ∨ t = 6 by omega) with h | h <;> subst h
    · rw [show 5 - 2 = 3 from rfl, psum_3]; exact hp
    · rw [show 6 - 2 = 4 from rfl, psum_4]; exact hp
  · rw [e0] at c0
    simp only [q_le, ht, Int32.reduceToInt] at c5
    refine g_part hI hM hnE q hq48 hl t (by omega) ?_
    rcases (show t = 1 ∨ t = 2 ∨ t = 3 ∨ t = 4 by omega) with h | h | h | h <;> subst h <;> exact hp
  · rw [e0] at c0
    subst c0
    exact hp
theorem g_told {post : Int32 → Sg → Prop} (hI : iv m) (hM : Mr m y) (e j w : Int32)
    (hn : ¬ isJ m j → post (-10000) y)
    (h3 : isJ m j → w = 3 → post (m.2 18 j.toNatClampNeg) y) (h4 : isJ m j → w = 4 → post (m.2 19 j.toNatClampNeg) y)
    (h0 : isJ m j → ¬ w = 3 → ¬ w = 4 → ¬ okTold m e w → post (-10000) y)
    (hT : isJ m j → okTold m e w → w = 0 → ∀ y', Mr m y' → post (b2 (th m e.toNatClampNeg j.toNatClampNeg)) y')
    (hO : isJ m j → okTold m e w → ¬ w = 0 → on m e.toNatClampNeg j.toNatClampNeg = false → ∀ y', Mr m y' → post (-10000) y')
    (h1 : isJ m j → okTold m e w → w = 1 → on m e.toNatClampNeg j.toNatClampNeg = true → ∀ y', Mr m y' → post (tot m e.toNatClampNeg j.toNatClampNeg) y')
    (h2 : isJ m j → okTold m e w → w = 2 → on m e.toNatClampNeg j.toNatClampNeg = true → ∀ y', Mr m y' → post (pl m e.toNatClampNeg j.toNatClampNeg) y') : pX5_told e j w y post := by
  have hJ := hI.2.1.2
  unfold pX5_told pX5_told_b115 pX5_told_b80 pX5_told_b53
  refine g_isJumper hI hM j (fun hj => ⟨fun _ => ?_, fun c => absurd c (by decide)⟩) (fun hj => ⟨fun c => absurd rfl c, fun _ => hn hj⟩)
  obtain ⟨ej, hjJ⟩ := isJ_ok hj
  have e1 := q_nI (n := j.toNatClampNeg) (by omega)
  have ej2 : j.toInt = (j.toNatClampNeg : Int) := by rw [← ej] at e1; exact e1
  refine ⟨fun c3 => ⟨fun c4 => ?_, fun c4 => ⟨q_in ej2 (by omega), ?_⟩⟩, fun c3 => ⟨q_in ej2 (by omega), ?_⟩⟩
  · refine g_isKnowing hI hM e (fun he => ⟨fun c => absurd c (by decide), fun _ => ?_⟩) (fun he => ⟨fun _ => h0 hj c3 c4 (fun q => he q.1), fun c => absurd rfl c⟩)
    refine g_lies _ _ _ (fun hw => ⟨fun _ => ?_, fun c => absurd c (by decide)⟩) (fun hw => ⟨fun c => absurd rfl c, fun _ => h0 hj c3 c4 (fun q => hw q.2)⟩)
    have hw : 0 ≤ w.toInt ∧ w.toInt ≤ 2 := hw
    have ok : okTold m e w := ⟨he, hw⟩
    obtain ⟨hn, hnE⟩ := isK_ok hI he
    rw [ej]
    generalize e.toNatClampNeg = n at *
    generalize hk : j.toNatClampNeg = k at *
    subst hn
    have ek := q_nI (n := k) (by omega)
    refine g_works hI hM hnE fun u hW => ?_
    have hM1 := hW.1
    have g9 : gA u 9 (nI k) = b2 (on m n k) := by unfold gA; rw [q_cl ek, hW.2.1 k hjJ]
    have g10 : gA u 10 (nI k) = b2 (th m n k) := by unfold gA; rw [q_cl ek, hW.2.2.2.1 k hjJ]
    rw [g9, g10]
    refine ⟨fun cw => ⟨q_in ek (by omega), fun c => ?_, fun c => hO hj ok cw (b2_eq c) _ hM1⟩, fun cw => ⟨q_in ek (by omega), fun c => ?_, fun c => ?_⟩⟩
    · have hon := b2_ne c
      refine ⟨fun cw1 => g_place hI hW k hjJ hon (h2 hj ok ?_ hon _ hM1), fun cw1 => ⟨q_in ek (by omega), ?_⟩⟩
      · simp only [q_eq, Int32.reduceToInt] at cw cw1 ⊢
        omega
      · unfold gA
        rw [q_cl ek, hW.2.2.2.2 k hjJ hon]
        exact h1 hj ok cw1 hon _ hM1
    · have := hT hj ok cw _ hM1
      rw [b2_eq c] at this
      exact this
    · have := hT hj ok cw _ hM1
      rw [b2_ne c] at this
      exact this
  · unfold gA; rw [hM.2.2.2.2.1 _ (by omega)]; exact h4 hj c4
  · unfold gA; rw [hM.2.2.2.1 _ (by omega)]; exact h3 hj c3
theorem srch_step {p : Nat → Bool} {J j : Nat} (h : j < J) : srch p (J - j) j = if p j then nI j else srch p (J - (j + 1)) (j + 1) := by
  rw [show J - j = (J - (j + 1)) + 1 by omega]
  rfl
theorem al_cut {j : Nat} (hj : j ≤ 24) : ct (al m n j) 24 = ct (al m n j) j := ct_ext hj (fun v h1 _ => by unfold al; simp [show ¬ v < j by omega])
theorem g_list {post : Int32 → Sg → Prop} (hI : iv m) (hM : Mr m y) (e i : Int32) (h0 : ¬ isK m e → post (-10000) y)
    (h1 : isK m e → ∀ y', Mr m y' → post (srch (pst m e.toNatClampNeg i) 24 0) y') : pX5_list e i y post := by
  have hJ := hI.2.1.2
  unfold pX5_list
  refine g_isKnowing hI hM e (fun he => ⟨fun _ => ?_, fun c => absurd c (by decide)⟩) (fun he => ⟨fun c => absurd rfl c, fun _ => h0 he⟩)
  have hx := h1 he
  clear h1
  obtain ⟨hn, hnE⟩ := isK_ok hI he
  generalize e.toNatClampNeg = n at *
  subst hn
  refine g_works hI hM hnE fun u hW => ?_
  have eJ := hW.1.J hI
  have hp := hx u hW.1
  rw [srch_cut hJ (fun k hk => by unfold pst; rw [on_out (by omega)]; rfl)] at hp
  unfold pX5_list_l19
  refine lp_intro (fun (a : Int32 × Int32) (w : Sg) => w = u ∧ a.1 = i ∧ ∃ j : Nat, j ≤ nJ m ∧ a.2 = nI j ∧ srch (pst m n i) (nJ m) 0 = srch (pst m n i) (nJ m - j) j) (fun a _ => 24 - a.2.toNatClampNeg) ?_ _ _ ⟨rfl, rfl, 0, by omega, rfl, rfl⟩
  rintro K ⟨a, b⟩ w ⟨rfl, ha, j, hj, hb, hsr⟩ ih
  simp only at ha hb ih ⊢
  subst ha hb
  have e := q_nI (n := j) (by omega)
  have e1 := q_nI (n := j + 1) (by omega)
  unfold pX5_list_b19
  refine ⟨fun c => ?_, fun c => ⟨?_, fun c1 => ?_, fun c1 => ?_⟩⟩
  · simp only [q_le, e, eJ] at c
    rw [hsr, show nJ m - j = 0 by omega] at hp
    exact hp
  · simp only [q_le, e, eJ] at c
    exact q_in e (by omega)
  all_goals simp only [q_le, e, eJ] at c
  all_goals have g9 : gA w 9 (nI j) = b2 (on m n j) := by unfold gA; rw [q_cl e, hW.2.1 j (by omega)]
  all_goals rw [g9] at c1
  all_goals have st := srch_step (p := pst m n a) (J := nJ m) (j := j) (by omega)
  all_goals have nx : pst m n a j = false → pX5_list_b123 (fun (x2 x3 : Int32) z => K (x2, x3) z) post a (nI j) w := fun hq => ih _ _ ⟨rfl, rfl, j + 1, by omega, nI_1 j, by rw [hsr, st, hq]; rfl⟩ (by simp only [nI_1, q_cl e, q_cl e1]; omega)
  · have hon := b2_ne c1
    refine g_place hI hW j (by omega) hon (fun v hv => ?_)
    have hbl := be_lt (m := m) (n := n) (j := j) (by omega) hon
    have hv2 : v = nI (ct (be m n j) 24) := by
      rw [hv]
      unfold pl
      rw [if_pos hon, show (1 : Int32) = nI 1 from rfl, pk_sub (by omega), Nat.add_sub_cancel_left]
    have pj : pst m n a j = decide (nI (pos m n j) = a) := by unfold pst; rw [hon]; rfl
    unfold pX5_list_l51
    refine lp_intro (fun (a2 : Int32 × Int32 × Int32 × Int32) (w2 : Sg) => w2 = w ∧ a2.1 = a ∧ a2.2.1 = nI j ∧ ∃ o : Nat, o ≤ j ∧ a2.2.2.2 = nI o ∧ a2.2.2.1 = nI (ct (be m n j) 24 + ct (al m n j) o)) (fun a _ => 24 - a.2.2.2.toNatClampNeg) ?_ _ _ ⟨rfl, rfl, rfl, 0, by omega, rfl, hv2⟩
    rintro K2 ⟨a2, b2, x4, x5⟩ w2 ⟨rfl, ha2, hb2, o, ho, hx5, hx4⟩ ih2
    simp only at ha2 hb2 hx5 hx4 ih2 ⊢
    subst ha2 hb2 hx5 hx4
    have eo := q_nI (n := o) (by omega)
    have eo1 := q_nI (n := o + 1) (by omega)
    unfold pX5_list_b51 pX5_list_b105 pX5_list_b106
    refine ⟨fun d => ?_, fun d => ?_⟩
    · simp only [q_le, eo, e] at d
      have : o = j := by omega
      subst this
      have hps : ct (be m n o) 24 + ct (al m n o) o = pos m n o := by unfold pos; rw [al_cut (by omega)]
      rw [hps]
      refine ⟨fun d1 => nx (by rw [pj]; simp [d1]), fun d1 => ?_⟩
      rw [hsr, st, pj, decide_eq_true d1] at hp
      exact hp
    · simp only [q_le, eo, e] at d
      have hoJ : o < nJ m := by omega
      have go9 : gA w2 9 (nI o) = b2 (on m n o) := by unfold gA; rw [q_cl eo, hW.2.1 o hoJ]
      have t1 : gA w2 10 (nI o) = b2 (th m n o) := by unfold gA; rw [q_cl eo, hW.2.2.2.1 o hoJ]
      have t2 : gA w2 10 (nI j) = b2 (th m n j) := by unfold gA; rw [q_cl e, hW.2.2.2.1 j (by omega)]
      have s2 : gA w2 12 (nI j) = tot m n j := by unfold gA; rw [q_cl e, hW.2.2.2.2 j (by omega) hon]
      rw [go9, t1, t2, s2]
      have nx2 : ∀ r : Int32, r = nI (ct (be m n j) 24 + ct (al m n j) (o + 1)) → K2 (a2, nI j, r, nI o + 1) w2 := fun r hr =>
        ih2 _ _ ⟨rfl, rfl, rfl, o + 1, by omega, nI_1 o, hr⟩ (by simp only [nI_1, q_cl eo, q_cl eo1]; omega)
      have fF : al m n j o = false → ∀ v1 : Int32, v1 = nI (ct (be m n j) 24 + ct (al m n j) o) + 0 → K2 (a2, nI j, v1, nI o + 1) w2 := fun hq v1 hv1 =>
        nx2 _ (by rw [hv1, Int32.add_zero]; simp [ct, hq])
      have fT : al m n j o = true → ∀ v1 : Int32, v1 = nI (ct (be m n j) 24 + ct (al m n j) o) + 1 → K2 (a2, nI j, v1, nI o + 1) w2 := fun hq v1 hv1 =>
        nx2 _ (by rw [hv1, nI_1]; simp only [ct, hq, if_true]; rfl)
      refine ⟨q_in eo (by omega), fun d1 => fF ?_, fun d1 => ⟨q_in eo (by omega), q_in e (by omega), fun d2 => fF ?_, fun d2 => ⟨q_in eo (by omega), q_in e (by omega), fun d3 => fF ?_, fun d3 => fT ?_⟩⟩⟩
      · simp [al, b2_eq d1]
      · have : ¬ th m n o = th m n j := fun q => d2 (b2_inj.mpr q)
        simp [al, this]
      all_goals have hoo := b2_ne d1
      all_goals have s1 : gA w2 12 (nI o) = tot m n o := by unfold gA; rw [q_cl eo, hW.2.2.2.2 o hoJ hoo]
      all_goals rw [s1] at d3
      · simp [al, d3]
      · simp [al, hoo, d3, b2_inj.mp d2, show o < j by omega]
  · exact nx (by unfold pst; rw [b2_eq c1]; rfl)
end MCL
