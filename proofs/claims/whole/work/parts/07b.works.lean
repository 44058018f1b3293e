/-- the reference's worked-out rows -/
def Wk (m : Sg) (n : Nat) (y : Sg) : Prop := Mr m y ∧ (∀ i, i < nJ m → y.2 9 i = b2 (on m n i)) ∧ (∀ i, i < nJ m → on m n i = true → y.2 11 i = fp m n i) ∧ (∀ i, i < nJ m → y.2 10 i = b2 (th m n i)) ∧ ∀ i, i < nJ m → on m n i = true → y.2 12 i = tot m n i
theorem q_0 : (0 : Int32).toInt = 0 := by decide
/-- the rows alone -/
def Wr (m : Sg) (n : Nat) (y : Sg) : Prop := (y.1 1).toInt = (nJ m : Int) ∧ (∀ i, i < nJ m → y.2 9 i = b2 (on m n i)) ∧ (∀ i, i < nJ m → on m n i = true → y.2 11 i = fp m n i) ∧ (∀ i, i < nJ m → y.2 10 i = b2 (th m n i)) ∧ ∀ i, i < nJ m → on m n i = true → y.2 12 i = tot m n i
section WRK
variable {m y : Sg} {n : Nat}
theorem g_lies {post : Int32 → Sg → Prop} (a lo hi : Int32) (h1 : lo.toInt ≤ a.toInt ∧ a.toInt ≤ hi.toInt → post 1 y) (h0 : ¬ (lo.toInt ≤ a.toInt ∧ a.toInt ≤ hi.toInt) → post 0 y) : pX5_lies a lo hi y post := by
  unfold pX5_lies pX5_lies_b14 pX5_lies_b15
  refine ⟨fun c => ⟨Or.inl rfl, h0 ?_⟩, fun c => ⟨fun d => ⟨Or.inl rfl, h0 ?_⟩, fun d => ⟨Or.inr rfl, h1 ?_⟩⟩⟩ <;> simp only [q_lt] at * <;> omega
theorem g_isJumper {post : Int32 → Sg → Prop} (hI : iv m) (hM : Mr m y) (a : Int32) (h1 : isJ m a → post 1 y) (h0 : ¬ isJ m a → post 0 y) : pX5_isJumper a y post := by
  have hJ := hI.2.1.2
  have e : (y.1 1 - 1).toInt = (nJ m : Int) - 1 := by
    rw [hM.1.2.1, hI.2.1.1]
    by_cases h : nJ m = 0
    · rw [h]; decide
    · rw [show (1 : Int32) = nI 1 from rfl, pk_sub (by omega), q_nI (by omega)]; omega
  unfold pX5_isJumper
  refine g_lies _ _ _ (fun c => ⟨Or.inr rfl, h1 ?_⟩) (fun c => ⟨Or.inl rfl, h0 ?_⟩)
  · rw [e, q_0] at c; omega
  · rw [e, q_0] at c; omega
theorem g_isKnowing {post : Int32 → Sg → Prop} (hI : iv m) (hM : Mr m y) (a : Int32) (h1 : isK m a → post 1 y) (h0 : ¬ isK m a → post 0 y) : pX5_isKnowing a y post := by
  have e := hM.E hI
  unfold pX5_isKnowing
  refine g_lies _ _ _ (fun c => ⟨Or.inr rfl, h1 ?_⟩) (fun c => ⟨Or.inl rfl, h0 ?_⟩)
  · rw [e, q_0] at c; exact c
  · rw [e, q_0] at c; exact c
theorem jm0 {j : Nat} (hj : j < 24) : nI j = nI (jm j) := by unfold jm; rw [show j % 24 + 32 * (j / 24) = j by omega]
theorem jm1 {j : Nat} (hj : j < 24) : nI j + 32 = nI (jm (24 + j)) := by
  unfold jm
  rw [show (32 : Int32) = nI 32 from rfl, nI_add, show (24 + j) % 24 + 32 * ((24 + j) / 24) = j + 32 by omega]
theorem on_hsJ {j : Nat} (hj : j < nJ m) : on m n j = hs m j n := by unfold on; rw [decide_eq_true hj]; rfl
theorem on_out {j : Nat} (hj : nJ m ≤ j) : on m n j = false := by unfold on; rw [decide_eq_false (by omega)]; rfl
/-- the reference's two counts -/
def gBt (m : Sg) (n j : Nat) : Nat → Bool := fun o => on m n o && decide (fp m n j < fp m n o)
def gAh (m : Sg) (n j : Nat) : Nat → Bool := fun o => on m n o && (decide (fp m n j < fp m n o) || (decide (fp m n o = fp m n j) && decide (o < j)))
theorem ah_on {j o : Nat} (hj : on m n j = true) (h : ah m n j o = true) : on m n o = true := by
  cases ho : on m n o with
  | true => rfl
  | false =>
    have h1 := fp_off ho
    have h2 : 0 ≤ fp m n j := by rw [fp_on hj]; exact pts_nn j
    unfold ah at h
    rw [h1] at h
    simp only [Bool.or_eq_true, Bool.and_eq_true, decide_eq_true_eq] at h
    exfalso
    simp only [q_lt, q_eq, q_le, q_m1, q_0] at h h2
    omega
theorem ah_g0 {j : Nat} (hj : on m n j = true) (hJ : nJ m ≤ 24) (h6 : m.2 1 6 = 0) : ct (ah m n j) 24 = ct (gAh m n j) (nJ m) := by
  rw [ct_ext hJ (fun v h1 _ => by
    cases h : ah m n j v with
    | false => rfl
    | true => have := ah_on hj h; rw [on_out h1] at this; cases this)]
  refine ct_cong (fun v _ => ?_)
  unfold gAh
  cases h : on m n v with
  | true => simp [ah, h6]
  | false =>
    cases h2 : ah m n j v with
    | false => rfl
    | true => have := ah_on hj h2; rw [h] at this; cases this
theorem ah_g1 {j : Nat} (hj : on m n j = true) (hJ : nJ m ≤ 24) (h6 : ¬ m.2 1 6 = 0) : ct (ah m n j) 24 = ct (gBt m n j) (nJ m) := by
  rw [ct_ext hJ (fun v h1 _ => by
    cases h : ah m n j v with
    | false => rfl
    | true => have := ah_on hj h; rw [on_out h1] at this; cases this)]
  refine ct_cong (fun v _ => ?_)
  unfold gBt
  cases h : on m n v with
  | true => simp [ah, h6]
  | false =>
    cases h2 : ah m n j v with
    | false => rfl
    | true => have := ah_on hj h2; rw [h] at this; cases this
theorem b2_ne {b : Bool} (h : ¬ b2 b = 0) : b = true := by cases b with
  | true => rfl
  | false => exact absurd rfl h
theorem b2_eq {b : Bool} (h : b2 b = 0) : b = false := by cases b with
  | true => exact absurd h (by decide)
  | false => rfl
theorem b2_inj {a b : Bool} : b2 a = b2 b ↔ a = b := ⟨fun c => by cases a <;> cases b <;> first | rfl | exact absurd c (by decide), fun q => by rw [q]⟩
def Mf (m y0 u : Sg) : Prop := Mr m u ∧ u.2 13 = y0.2 13
theorem Mf.tA {m y0 u : Sg} (h : Mf m y0 u) (k : Nat) (i v : Int32) (hk : (k = 2 ∨ 9 ≤ k) ∧ k ≠ 13 := by decide) : Mf m y0 (sA u k i v) := ⟨h.1.tA k i v hk.1, by rw [sA_ne _ _ _ _ _ hk.2.symm]; exact h.2⟩
theorem g_worksF {post : Sg → Prop} (hI : iv m) (hM : Mr m y) (hn : n ≤ nE m) (h : ∀ u, Wk m n u → u.2 13 = y.2 13 → post u) : pX5_works (nI n) y post := by
  have hJ := hI.2.1.2
  -- the second loop
  have L2 : ∀ u, Mf m y u → (∀ i, i < nJ m → u.2 9 i = b2 (on m n i)) → (∀ i, i < nJ m → on m n i = true → u.2 11 i = fp m n i) → pX5_works_l58 post (nI n) 0 u := by
    intro u0 m0 f0 g0
    unfold pX5_works_l58
    refine lp_intro (fun (a : Int32 × Int32) (u : Sg) => a.1 = nI n ∧ ∃ j : Nat, j ≤ nJ m ∧ a.2 = nI j ∧ Mf m y u ∧ (∀ i, i < nJ m → u.2 9 i = b2 (on m n i)) ∧ (∀ i, i < nJ m → on m n i = true → u.2 11 i = fp m n i) ∧ (∀ i, i < j → u.2 10 i = b2 (th m n i)) ∧ ∀ i, i < j → on m n i = true → u.2 12 i = tot m n i) (fun a _ => 24 - a.2.toNatClampNeg) ?_ _ _ ⟨rfl, 0, by omega, rfl, m0, f0, g0, fun i hi => absurd hi (Nat.not_lt_zero i), fun i hi => absurd hi (Nat.not_lt_zero i)⟩
    rintro K ⟨a, b⟩ u ⟨ha, j, hj, hb, m1, f1, g1, t1, s1⟩ ih
    simp only at ha hb ih ⊢
    subst ha hb
    have e := q_nI (n := j) (by omega)
    have e1 := q_nI (n := j + 1) (by omega)
    have eJ := m1.1.J hI
    unfold pX5_works_b58
    refine ⟨fun c => ?_, fun c => ?_⟩
    · simp only [q_le, e, eJ] at c
      have : j = nJ m := by omega
      subst this
      exact h u ⟨m1.1, f1, g1, t1, s1⟩ m1.2
    · simp only [q_le, e, eJ] at c
      have hjJ : j < nJ m := by omega
      have hm : 24 - (nI j + 1).toNatClampNeg < 24 - (nI j).toNatClampNeg := by simp only [nI_1, q_cl e, q_cl e1]; omega
      have g9 : gA u 9 (nI j) = b2 (on m n j) := by unfold gA; rw [q_cl e, f1 j hjJ]
      -- what is left once it is known who is through
      have rest : ∀ b : Bool, b = th m n j → pX5_works_b228 (fun (x1 x2 : Int32) z => K (x1, x2) z) post (nI n) (nI j) (b2 b) (nI j) u := fun b hb => by
        unfold pX5_works_b228
        rw [nar_b2]
        have m2 : Mf m y (sA u 10 (nI j) (b2 b)) := m1.tA _ _ _
        have gT : gA (sA u 10 (nI j) (b2 b)) 10 (nI j) = b2 b := by unfold gA; rw [sA_at, upd_at]
        have f2 : ∀ i, i < nJ m → (sA u 10 (nI j) (b2 b)).2 9 i = b2 (on m n i) := fun i hi => by rw [sA_ne _ _ _ _ _ (by decide)]; exact f1 i hi
        have g2 : ∀ i, i < nJ m → on m n i = true → (sA u 10 (nI j) (b2 b)).2 11 i = fp m n i := fun i hi ho => by rw [sA_ne _ _ _ _ _ (by decide)]; exact g1 i hi ho
        have t2 : ∀ i, i < j + 1 → (sA u 10 (nI j) (b2 b)).2 10 i = b2 (th m n i) := fun i hi => by
          rw [sA_at, q_cl e]
          by_cases hij : i = j
          · subst hij; rw [upd_at, hb]
          · rw [upd_ne _ _ _ _ hij]; exact t1 i (by omega)
        have s2 : ∀ i, i < j → on m n i = true → (sA u 10 (nI j) (b2 b)).2 12 i = tot m n i := fun i hi ho => by rw [sA_ne _ _ _ _ _ (by decide)]; exact s1 i hi ho
        have g11 : gA u 11 (nI j) = u.2 11 j := by unfold gA; rw [q_cl e]
        have g11b : gA (sA u 10 (nI j) (b2 b)) 11 (nI j) = u.2 11 j := by unfold gA; rw [q_cl e, sA_ne _ _ _ _ _ (by decide)]
        rw [gT]
        generalize hu2 : sA u 10 (nI j) (b2 b) = u2 at *
        have last : ∀ r : Int32, (on m n j = true → fp m n j + r = tot m n j) → pX5_works_b275 (fun (x1 x2 : Int32) z => K (x1, x2) z) post (nI n) (nI j) r (u.2 11 j) (nI j) u2 := fun r hr => by
          unfold pX5_works_b275
          refine ⟨q_in e (by omega), ih _ _ ⟨rfl, j + 1, by omega, nI_1 j, m2.tA _ _ _, fun i hi => ?_, fun i hi ho => ?_, fun i hi => ?_, fun i hi ho => ?_⟩ hm⟩
          · rw [sA_ne _ _ _ _ _ (by decide)]; exact f2 i hi
          · rw [sA_ne _ _ _ _ _ (by decide)]; exact g2 i hi ho
          · rw [sA_ne _ _ _ _ _ (by decide)]; exact t2 i hi
          · rw [sA_at, q_cl e]
            by_cases hij : i = j
            · subst hij; rw [upd_at, g1 i hjJ ho]; exact hr ho
            · rw [upd_ne _ _ _ _ hij]; exact s2 i (by omega) ho
        refine ⟨q_in e (by omega), q_in e (by omega), q_in e (by omega), fun c => ?_, fun c => ?_⟩
        · have hf : th m n j = false := by rw [← hb]; exact b2_eq c
          unfold pX5_works_b274
          first | rw [g11b] | rw [g11]
          exact last 0 (fun _ => by unfold tot; rw [hf]; rfl)
        · have ht : th m n j = true := by rw [← hb]; exact b2_ne c
          rw [jm1 (by omega)]
          refine g_has hI m2.1 hn (24 + j) (by omega) ⟨fun d => ?_, fun d => g_all hI m2.1 hn (24 + j) (by omega) (b2_ne d) ?_⟩
          · unfold pX5_works_b274
            first | rw [g11b] | rw [g11]
            exact last 0 (fun _ => by unfold tot; rw [b2_eq d]; simp)
          · first | rw [g11b] | rw [g11]
            exact last _ (fun _ => by unfold tot; rw [ht, b2_ne d]; rfl)
      have fin0 : on m n j = false → pX5_works_b227 (fun (x1 x2 : Int32) z => K (x1, x2) z) post (nI n) (nI j) (nI j) u := fun ho => by
        unfold pX5_works_b227
        exact rest false (by unfold th; rw [ho]; rfl)
      have r5 : vp_in 5 7 ∧ gA u 1 5 = m.2 1 5 := m1.1.ru (show 5 < 7 by omega)
      have r6 : vp_in 6 7 ∧ gA u 1 6 = m.2 1 6 := m1.1.ru (show 6 < 7 by omega)
      have h6 : (m.2 1 6).toInt = 0 ∨ (m.2 1 6).toInt = 1 := by
        have := hI.2.2.2.2.1 6 (by omega)
        rw [show (tb_LEAST 6).toInt = 0 by decide, show (tb_GREATEST 6).toInt = 1 by decide] at this
        omega
      have z6 : m.2 1 6 = 0 ↔ ¬ m.2 1 6 = 1 := by rw [q_eq, q_eq, q_0, show (1 : Int32).toInt = 1 by decide]; omega
      have fin1 : on m n j = true → pX5_works_b74 (fun (x1 x2 : Int32) z => K (x1, x2) z) (fun (x1 x2 x3 x4 x5 : Int32) z => False) post (nI n) (nI j) (nI (ct (gAh m n j) (nJ m))) (nI (ct (gBt m n j) (nJ m))) (nI (nJ m)) u → True := fun _ _ => trivial
      have done : pX5_works_l74 (fun (x1 x2 : Int32) z => K (x1, x2) z) post (nI n) (nI j) 0 0 0 u := by
        unfold pX5_works_l74
        refine lp_intro (fun (a : Int32 × Int32 × Int32 × Int32 × Int32) (w : Sg) => w = u ∧ a.1 = nI n ∧ a.2.1 = nI j ∧ ∃ o : Nat, o ≤ nJ m ∧ a.2.2.2.2 = nI o ∧ (on m n j = true → a.2.2.1 = nI (ct (gAh m n j) o) ∧ a.2.2.2.1 = nI (ct (gBt m n j) o))) (fun a _ => 24 - a.2.2.2.2.toNatClampNeg) ?_ _ _ ⟨rfl, rfl, rfl, 0, by omega, rfl, fun _ => ⟨rfl, rfl⟩⟩
        rintro K2 ⟨a, b, xa, xb, d⟩ w ⟨rfl, ha, hb, o, ho, hd, hc⟩ ih2
        simp only at ha hb hc hd ih2 ⊢
        subst ha hb hd
        have eo := q_nI (n := o) (by omega)
        have eo1 := q_nI (n := o + 1) (by omega)
        unfold pX5_works_b74
        refine ⟨fun c => ⟨q_in e (by omega), fun c1 => ?_, fun c1 => ?_⟩, fun c => ⟨?_, fun c1 => ?_, fun c1 => ?_⟩⟩
        · rw [g9] at c1
          exact fin0 (b2_eq c1)
        · rw [g9] at c1
          have hon := b2_ne c1
          obtain ⟨hxa, hxb⟩ := hc hon
          simp only [q_le, eo, eJ] at c
          have : o = nJ m := by omega
          subst this
          rw [r5.2, r6.2, hxa, hxb]
          have yes : nI (ct (ah m n j) 24) < m.2 1 5 → pX5_works_b223 (fun (x1 x2 : Int32) z => K (x1, x2) z) post (nI n) (nI j) (nI j) w := fun hlt => by
            unfold pX5_works_b223
            exact rest true (by unfold th; rw [hon, decide_eq_true hlt]; rfl)
          have no : m.2 1 5 ≤ nI (ct (ah m n j) 24) → pX5_works_b227 (fun (x1 x2 : Int32) z => K (x1, x2) z) post (nI n) (nI j) (nI j) w := fun hle => by
            unfold pX5_works_b227
            exact rest false (by unfold th; rw [decide_eq_false (Int32.not_lt.mpr hle)]; simp)
          refine ⟨r6.1, fun c2 => ⟨r5.1, fun c3 => no ?_, fun c3 => yes ?_⟩, fun c2 => ⟨r5.1, fun c3 => no ?_, fun c3 => yes ?_⟩⟩
          · rw [ah_g0 hon hJ (z6.mpr c2)]; exact c3
          · rw [ah_g0 hon hJ (z6.mpr c2)]; exact Int32.not_le.mp c3
          · rw [ah_g1 hon hJ (fun q => z6.mp q c2)]; exact c3
          · rw [ah_g1 hon hJ (fun q => z6.mp q c2)]; exact Int32.not_le.mp c3
        · simp only [q_le, eo, eJ] at c
          exact q_in eo (by omega)
        · simp only [q_le, eo, eJ] at c
          have hoJ : o < nJ m := by omega
          have go9 : gA w 9 (nI o) = b2 (on m n o) := by unfold gA; rw [q_cl eo, f1 o hoJ]
          rw [go9] at c1
          have hoo := b2_ne c1
          have gx : gA w 11 (nI o) = fp m n o := by unfold gA; rw [q_cl eo, g1 o hoJ hoo]
          have nx : ∀ p q : Int32, (on m n j = true → p = nI (ct (gAh m n j) (o + 1)) ∧ q = nI (ct (gBt m n j) (o + 1))) → K2 (nI n, nI j, p, q, nI o + 1) w := fun p q hpq =>
            ih2 _ _ ⟨rfl, rfl, rfl, o + 1, by omega, nI_1 o, hpq⟩ (by simp only [nI_1, q_cl eo, q_cl eo1]; omega)
          rw [gx]
          have addb : ∀ (t : Nat) (b : Bool), nI t + b2 b = nI (t + if b then 1 else 0) := fun t b => by cases b <;> simp [b2, nI_1, ← nI_1]
          have mid : ∀ bb : Bool, (on m n j = true → bb = gBt m n j o) → pX5_works_b119 (fun (x1 x2 : Int32) z => K (x1, x2) z) (fun (x1 x2 x3 x4 x5 : Int32) z => K2 (x1, x2, x3, x4, x5) z) post (nI n) (nI j) xa (nI o) (b2 bb) xb w := fun bb hbb => by
            unfold pX5_works_b119 pX5_works_b161 pX5_works_b165 pX5_works_b166 pX5_works_b168
            intro v hv
            have hv2 : on m n j = true → v = nI (ct (gBt m n j) (o + 1)) := fun hon => by
              rw [hv, (hc hon).2, addb, hbb hon]; rfl
            have fT : (on m n j = true → gAh m n j o = true) → ∀ v1 : Int32, v1 = xa + 1 → K2 (nI n, nI j, v1, v, nI o + 1) w := fun ht v1 hv1 =>
              nx _ _ (fun hon => ⟨by rw [hv1, (hc hon).1, nI_1]; simp only [ct, ht hon, if_true], hv2 hon⟩)
            have fF : (on m n j = true → gAh m n j o = false) → ∀ v1 : Int32, v1 = xa + 0 → K2 (nI n, nI j, v1, v, nI o + 1) w := fun ht v1 hv1 =>
              nx _ _ (fun hon => ⟨by rw [hv1, (hc hon).1, Int32.add_zero]; simp [ct, ht hon], hv2 hon⟩)
            rw [gx]
            have gj : on m n j = true → gA w 11 (nI j) = fp m n j := fun hon => by unfold gA; rw [q_cl e, g1 j hjJ hon]
            refine ⟨q_in eo (by omega), q_in e (by omega), fun d1 => fT (fun hon => ?_), fun d1 => ⟨q_in eo (by omega), q_in e (by omega), fun d2 => fF (fun hon => ?_), fun d2 => ⟨fun d3 => fF (fun hon => ?_), fun d3 => fT (fun hon => ?_)⟩⟩⟩
            · rw [gj hon] at d1; simp [gAh, hoo, d1]
            · rw [gj hon] at d1 d2; simp [gAh, d1, d2]
            · rw [gj hon] at d1 d2
              simp only [q_le, eo, e] at d3
              have : ¬ o < j := by omega
              simp [gAh, d1, this]
            · rw [gj hon] at d1 d2
              simp only [q_le, eo, e] at d3
              have : o < j := by omega
              simp [gAh, hoo, d2, this]
          have gj : on m n j = true → gA w 11 (nI j) = fp m n j := fun hon => by unfold gA; rw [q_cl e, g1 j hjJ hon]
          refine ⟨q_in eo (by omega), q_in e (by omega), fun d => mid false (fun hon => ?_), fun d => mid true (fun hon => ?_)⟩
          · rw [gj hon] at d
            simp [gBt, Int32.not_lt.mpr d]
          · rw [gj hon] at d
            simp [gBt, hoo, Int32.not_le.mp d]
        · simp only [q_le, eo, eJ] at c
          have hoJ : o < nJ m := by omega
          have go9 : gA w 9 (nI o) = b2 (on m n o) := by unfold gA; rw [q_cl eo, f1 o hoJ]
          rw [go9] at c1
          have hoo := b2_eq c1
          unfold pX5_works_b168
          refine ih2 _ _ ⟨rfl, rfl, rfl, o + 1, by omega, nI_1 o, fun hon => ?_⟩ (by simp only [nI_1, q_cl eo, q_cl eo1]; omega)
          rw [(hc hon).1, (hc hon).2]
          simp [ct, gAh, gBt, hoo]
      exact done
  unfold pX5_works pX5_works_l2
  refine lp_intro (fun (a : Int32 × Int32) (u : Sg) => a.1 = nI n ∧ ∃ j : Nat, j ≤ nJ m ∧ a.2 = nI j ∧ Mf m y u ∧ (∀ i, i < j → u.2 9 i = b2 (on m n i)) ∧ ∀ i, i < j → on m n i = true → u.2 11 i = fp m n i) (fun a _ => 24 - a.2.toNatClampNeg) ?_ _ _ ⟨rfl, 0, by omega, rfl, ⟨hM, rfl⟩, fun i hi => absurd hi (Nat.not_lt_zero i), fun i hi => absurd hi (Nat.not_lt_zero i)⟩
  rintro K ⟨a, b⟩ u ⟨ha, j, hj, hb, m1, f1, g1⟩ ih
  simp only at ha hb ih ⊢
  subst ha hb
  have e := q_nI (n := j) (by omega)
  have e1 := q_nI (n := j + 1) (by omega)
  have eJ := m1.1.J hI
  unfold pX5_works_b2
  refine ⟨fun c => ?_, fun c => ?_⟩
  · simp only [q_le, e, eJ] at c
    have : j = nJ m := by omega
    subst this
    exact L2 u m1 f1 g1
  · simp only [q_le, e, eJ] at c
    have hjJ : j < nJ m := by omega
    have hm : 24 - (nI j + 1).toNatClampNeg < 24 - (nI j).toNatClampNeg := by simp only [nI_1, q_cl e, q_cl e1]; omega
    have ho := on_hsJ (n := n) hjJ
    have hasj := fun (P : Int32 → Sg → Prop) (hp : P (b2 (hs m j n)) u) => g_has hI m1.1 hn j (by omega) hp
    rw [← jm0 (by omega)] at hasj
    refine hasj _ ?_
    rw [nar_b2, ← ho]
    have m2 : Mf m y (sA u 9 (nI j) (b2 (on m n j))) := m1.tA _ _ _
    have gT : gA (sA u 9 (nI j) (b2 (on m n j))) 9 (nI j) = b2 (on m n j) := by unfold gA; rw [sA_at, upd_at]
    rw [gT]
    have last : ∀ r : Int32, (on m n j = true → r = fp m n j) → pX5_works_b49 (fun (x1 x2 : Int32) z => K (x1, x2) z) post (nI n) (nI j) r (nI j) (sA u 9 (nI j) (b2 (on m n j))) := fun r hr => by
      unfold pX5_works_b49
      refine ⟨q_in e (by omega), ih _ _ ⟨rfl, j + 1, by omega, nI_1 j, m2.tA _ _ _, fun i hi => ?_, fun i hi ho2 => ?_⟩ hm⟩
      · rw [sA_ne _ _ _ _ _ (by decide), sA_at, q_cl e]
        by_cases hij : i = j
        · subst hij; rw [upd_at]
        · rw [upd_ne _ _ _ _ hij]; exact f1 i (by omega)
      · rw [sA_at, q_cl e]
        by_cases hij : i = j
        · subst hij; rw [upd_at]; exact hr ho2
        · rw [upd_ne _ _ _ _ hij, sA_ne _ _ _ _ _ (by decide)]; exact g1 i (by omega) ho2
    refine ⟨q_in e (by omega), q_in e (by omega), fun c1 => last _ (fun q => ?_), fun c1 => ?_⟩
    · rw [b2_eq c1] at q; cases q
    · have hon := b2_ne c1
      have al := fun (P : Int32 → Sg → Prop) (hp : P (pts m j n) _) => g_all hI m2.1 hn j (by omega) (by rw [← ho]; exact hon) hp
      rw [← jm0 (by omega)] at al
      exact al _ (last _ (fun _ => (fp_on hon).symm))
theorem g_works {post : Sg → Prop} (hI : iv m) (hM : Mr m y) (hn : n ≤ nE m) (h : ∀ u, Wk m n u → post u) : pX5_works (nI n) y post := g_worksF hI hM hn (fun u hu _ => h u hu)
theorem g_isBefore {post : Int32 → Sg → Prop} (hW : Wr m n y) (hJ : nJ m ≤ 24) (k j : Nat) (hk : k < nJ m) (hj : j < nJ m) (ho : on m n j = true) (h : post (b2 (be m n j k)) y) : pX5_isBefore (nI k) (nI j) y post := by
  have e := q_nI (n := k) (by omega)
  have ej := q_nI (n := j) (by omega)
  have g9 : gA y 9 (nI k) = b2 (on m n k) := by unfold gA; rw [q_cl e, hW.2.1 k hk]
  have t1 : gA y 10 (nI k) = b2 (th m n k) := by unfold gA; rw [q_cl e, hW.2.2.2.1 k hk]
  have t2 : gA y 10 (nI j) = b2 (th m n j) := by unfold gA; rw [q_cl ej, hW.2.2.2.1 j hj]
  have s2 : gA y 12 (nI j) = tot m n j := by unfold gA; rw [q_cl ej, hW.2.2.2.2 j hj ho]
  unfold pX5_isBefore pX5_isBefore_b51 pX5_isBefore_b55 pX5_isBefore_b56
  rw [g9, t1, t2, s2]
  unfold be bt at h
  refine ⟨q_in e (by omega), fun c => ⟨Or.inl rfl, ?_⟩, fun c => ⟨q_in e (by omega), q_in ej (by omega), fun d => ⟨q_in e (by omega), q_in ej (by omega), fun f => ⟨Or.inl rfl, ?_⟩, fun f => ⟨Or.inr rfl, ?_⟩⟩, fun d => ⟨q_in e (by omega), fun f => ⟨Or.inl rfl, ?_⟩, fun f => ⟨Or.inr rfl, ?_⟩⟩⟩⟩
  · rw [b2_eq c] at h; exact h
  · have hk2 := b2_ne c
    have s1 : gA y 12 (nI k) = tot m n k := by unfold gA; rw [q_cl e, hW.2.2.2.2 k hk hk2]
    rw [s1] at f
    rw [hk2, if_pos (b2_inj.mp d), decide_eq_false (Int32.not_lt.mpr f)] at h
    exact h
  · have hk2 := b2_ne c
    have s1 : gA y 12 (nI k) = tot m n k := by unfold gA; rw [q_cl e, hW.2.2.2.2 k hk hk2]
    rw [s1] at f
    rw [hk2, if_pos (b2_inj.mp d), decide_eq_true (Int32.not_le.mp f)] at h
    exact h
  · rw [b2_ne c, if_neg (fun q => d (b2_inj.mpr q)), b2_eq f] at h; exact h
  · rw [b2_ne c, if_neg (fun q => d (b2_inj.mpr q)), b2_ne f] at h; exact h
theorem be_out {j v : Nat} (h : nJ m ≤ v) : be m n j v = false := by unfold be; rw [on_out h]; rfl
theorem g_placeR {post : Int32 → Sg → Prop} (hI : iv m) (hW : Wr m n y) (j : Nat) (hj : j < nJ m) (ho : on m n j = true) (h : post (pl m n j) y) : pX5_place (nI j) y post := by
  have hJ := hI.2.1.2
  have eJ := hW.1
  unfold pX5_place pX5_place_l4
  refine lp_intro (fun (a : Int32 × Int32 × Int32) (w : Sg) => w = y ∧ a.1 = nI j ∧ ∃ k : Nat, k ≤ nJ m ∧ a.2.2 = nI k ∧ a.2.1 = nI (1 + ct (be m n j) k)) (fun a _ => 24 - a.2.2.toNatClampNeg) ?_ _ _ ⟨rfl, rfl, 0, by omega, rfl, rfl⟩
  rintro K ⟨a, b, d⟩ w ⟨rfl, ha, k, hk, hd, hb⟩ ih
  simp only at ha hb hd ih ⊢
  subst ha hb hd
  have e := q_nI (n := k) (by omega)
  have e1 := q_nI (n := k + 1) (by omega)
  unfold pX5_place_b4 pX5_place_b27
  refine ⟨fun c => ?_, fun c => ?_⟩
  · simp only [q_le, e, eJ] at c
    have : k = nJ m := by omega
    subst this
    unfold pl at h
    rw [if_pos ho, ct_ext hJ (fun v h1 _ => be_out h1)] at h
    exact h
  · simp only [q_le, e, eJ] at c
    have nx : ∀ v : Int32, v = nI (1 + ct (be m n j) (k + 1)) → K (nI j, v, nI k + 1) w := fun v hv =>
      ih _ _ ⟨rfl, rfl, k + 1, by omega, nI_1 k, hv⟩ (by simp only [nI_1, q_cl e, q_cl e1]; omega)
    refine g_isBefore hW hJ k j (by omega) hj ho ⟨fun d v hv => nx v ?_, fun d v hv => nx v ?_⟩
    · rw [hv, Int32.add_zero]; simp [ct, b2_eq d]
    · rw [hv, nI_1]; simp only [ct, b2_ne d, if_true]; rfl
theorem g_place {post : Int32 → Sg → Prop} (hI : iv m) (hW : Wk m n y) (j : Nat) (hj : j < nJ m) (ho : on m n j = true) (h : post (pl m n j) y) : pX5_place (nI j) y post := g_placeR hI ⟨hW.1.J hI, hW.2⟩ j hj ho h
theorem g_placeS {post : Int32 → Sg → Prop} (hI : iv m) (hW : Wk m n y) (f : Nat → Int32) (j : Nat) (hj : j < nJ m) (ho : on m n j = true) (h : post (pl m n j) (sR y 4 f)) : pX5_place (nI j) (sR y 4 f) post := by
  have e : ∀ l, l ≠ 4 → (sR y 4 f).2 l = y.2 l := fun l hl => sR_ne _ _ _ _ hl
  have hJ0 := hW.1.J hI
  have hJ : ((sR y 4 f).1 1).toInt = (nJ m : Int) := hJ0
  refine g_placeR (y := sR y 4 f) hI ⟨hJ, ?_, ?_, ?_, ?_⟩ j hj ho h
  · rw [e 9 (by decide)]; exact hW.2.1
  · rw [e 11 (by decide)]; exact hW.2.2.1
  · rw [e 10 (by decide)]; exact hW.2.2.2.1
  · rw [e 12 (by decide)]; exact hW.2.2.2.2
end WRK
