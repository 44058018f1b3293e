/-- those of a team who are on the list -/
def tS (m : Sg) (n : Nat) (t : Int32) : Nat → Bool := fun j => on m n j && decide (m.2 18 j = t)
def tM (m : Sg) (n j o : Nat) : Bool := decide (tot m n j < tot m n o) || (decide (tot m n o = tot m n j) && decide (o < j))
def tmR (m : Sg) (n : Nat) (t : Int32) : Int32 := if ct (tS m n t) 24 = 0 then -10000 else su (fun j => tS m n t j && decide (rk (tS m n t) (bf m n) j < 4)) (tot m n) 24
abbrev okTeam (m : Sg) (e t : Int32) : Prop := isK m e ∧ isT t
def tP (m : Sg) (n : Nat) (t : Int32) (i : Nat) : Nat → Bool := fun j => tS m n t j && decide (pos m n j < i)
section TEA
variable {m z y : Sg} {n : Nat} {t : Int32}
theorem tS_on {j : Nat} (h : tS m n t j = true) : on m n j = true := by unfold tS at h; simp only [Bool.and_eq_true] at h; exact h.1
theorem on_24 (hI : iv m) {j : Nat} (h : on m n j = true) : j < 24 ∧ j < nJ m := by
  have := hI.2.1.2
  have := (on_hs h).1
  omega
theorem fal_bf (hI : iv m) (hn : n ≤ nE m) : Fal (tS m n t) (tot m n) (bf m n) := by
  refine ⟨bf_ir, fun a b c _ _ _ h1 h2 => bf_tr h2 h1, fun a b ha hb hab => (bf_to (tS_on ha) (tS_on hb) hab).symm, fun a b ha hb h => ?_⟩
  have oa := tS_on ha
  have ob := tS_on hb
  obtain ⟨-, h | h⟩ := bf_iff.mp h
  · exact th_tot hI hn (on_24 hI ob).1 (on_24 hI oa).1 ob oa h.1 h.2
  · omega
theorem fal_tM : Fal (tS m n t) (tot m n) (tM m n) := by
  refine ⟨fun a => ?_, fun a b c _ _ _ h1 h2 => ?_, fun a b _ _ hab => ?_, fun a b _ _ h => ?_⟩
  · cases h : tM m n a a with
    | false => rfl
    | true =>
      simp only [tM, Bool.or_eq_true, Bool.and_eq_true, decide_eq_true_eq, q_lt, q_eq] at h
      omega
  · simp only [tM, Bool.or_eq_true, Bool.and_eq_true, decide_eq_true_eq, q_lt, q_eq] at h1 h2 ⊢
    omega
  · simp only [tM, Bool.or_eq_true, Bool.and_eq_true, decide_eq_true_eq, q_lt, q_eq]
    omega
  · simp only [tM, Bool.or_eq_true, Bool.and_eq_true, decide_eq_true_eq, q_lt, q_eq] at h
    omega
theorem tP_step (hI : iv m) {j : Nat} (oj : on m n j = true) : ∀ v, v < 24 → tP m n t (pos m n j + 1) v = (tP m n t (pos m n j) v || (tS m n t j && decide (v = j))) := by
  intro v hv
  unfold tP
  by_cases e : v = j
  · subst e; simp
  · cases sv : tS m n t v with
    | false => simp [e]
    | true =>
      have : ¬ pos m n v = pos m n j := fun q => e (pos_inj hv (on_24 hI oj).1 (tS_on sv) oj q)
      have e2 : decide (pos m n v < pos m n j + 1) = decide (pos m n v < pos m n j) := by
        rw [decide_eq_decide]; omega
      simp [e, e2]
theorem tP_end (hI : iv m) {i : Nat} (h4 : ct (tP m n t i) 24 ≤ 4) (he : ct (on m n) 24 ≤ i ∨ 4 ≤ ct (tP m n t i) 24) :
    su (tP m n t i) (tot m n) 24 = su (fun j => tS m n t j && decide (rk (tS m n t) (bf m n) j < 4)) (tot m n) 24 ∧ (ct (tP m n t i) 24 = 0 ↔ ct (tS m n t) 24 = 0) := by
  refine ⟨su_cong (fun v hv => ?_), ?_⟩
  · unfold tP
    cases sv : tS m n t v with
    | false => rfl
    | true =>
      rw [Bool.true_and, Bool.true_and, decide_eq_decide]
      constructor
      · intro hp
        have : rk (tS m n t) (bf m n) v < ct (tP m n t i) 24 := ct_lt (fun w hw hs => by
          simp only [Bool.and_eq_true] at hs
          have := pos_lt2 hw hs.2
          simp only [tP, Bool.and_eq_true, decide_eq_true_eq]
          exact ⟨hs.1, by omega⟩) v hv (by simp [bf_ir]) (by simp [tP, sv, hp])
        omega
      · intro hr
        apply Classical.byContradiction
        intro hp
        have h1 := pos_lt hv (tS_on sv)
        have h2 : 4 ≤ ct (tP m n t i) 24 := he.resolve_left (by omega)
        have : ct (tP m n t i) 24 ≤ rk (tS m n t) (bf m n) v := ct_sub (fun w hw hs => by
          simp only [tP, Bool.and_eq_true, decide_eq_true_eq] at hs
          simp only [Bool.and_eq_true]
          refine ⟨hs.1, ?_⟩
          rcases bf_to (tS_on hs.1) (tS_on sv) (fun e => by subst e; omega) with q | q
          · exact q
          · have := pos_lt2 hv q; omega)
        omega
  · have h1 : ct (tP m n t i) 24 ≤ ct (tS m n t) 24 := ct_sub (fun v _ h => by simp only [tP, Bool.and_eq_true] at h; exact h.1)
    constructor
    · intro h0
      have hL : ct (on m n) 24 ≤ i := he.resolve_right (by omega)
      have : ct (tS m n t) 24 ≤ ct (tP m n t i) 24 := ct_sub (fun v hv h => by
        have := pos_lt hv (tS_on h)
        simp only [tP, Bool.and_eq_true, decide_eq_true_eq]
        exact ⟨h, by omega⟩)
      omega
    · intro h0; omega
theorem c_team {post : Int32 → Sg → Prop} (hI : iv m) (hC : Cr m z) (e t : Int32) (h0 : ¬ okTeam m e t → post (-10000) z)
    (h1 : okTeam m e t → ∀ z', Cr m z' → post (tmR m e.toNatClampNeg t) z') : pX4_team e t z post := by
  unfold pX4_team pX4_team_b16
  refine e_isKnowing hI hC e (fun he => ⟨fun c => absurd c (by decide), fun _ => ?_⟩) (fun he => ⟨fun _ => h0 (fun q => he q.1), fun c => absurd rfl c⟩)
  refine e_isTeam t (fun ht => ⟨fun _ => ?_, fun c => absurd c (by decide)⟩) (fun ht => ⟨fun c => absurd rfl c, fun _ => h0 (fun q => ht q.2)⟩)
  have hx := h1 ⟨he, ht⟩
  clear h1 h0
  obtain ⟨hn, hnE⟩ := isK_ok hI he
  rw [hC.s 1, hI.2.1.1]
  generalize e.toNatClampNeg = n at *
  subst hn
  refine e_draw hI hC hnE fun u hB => ?_
  have hp := hx u hB.1.1
  have hct := ct_le (on m n) 24
  obtain ⟨f, hO⟩ := hB.2.2.2.2.2.1
  have hL : u.1 12 = nI (ct (on m n) 24) := hB.2.2.2.2.2.2.1
  have eL := q_nI (n := ct (on m n) 24) (by omega)
  have hCu := hB.1.1
  unfold pX4_teamTotal pX4_teamTotal_l7
  refine lp_intro (fun (a : Int32 × Int32 × Int32 × Int32) (w : Sg) => w = u ∧ a.1 = t ∧ ∃ i : Nat, i ≤ ct (on m n) 24 ∧ a.2.2.2 = nI i ∧ ct (tP m n t i) 24 ≤ 4 ∧ a.2.2.1 = nI (ct (tP m n t i) 24) ∧ a.2.1 = su (tP m n t i) (tot m n) 24) (fun a _ => 24 - a.2.2.2.toNatClampNeg) ?_ _ _ ⟨rfl, rfl, 0, by omega, rfl, ?_, ?_, ?_⟩
  rotate_left
  · rw [ct_zero (fun v _ => by simp [tP])]; omega
  · rw [ct_zero (fun v _ => by simp [tP])]; rfl
  · rw [su_zero (fun v _ => by simp [tP])]
  rintro K ⟨a, b, c3, d⟩ w ⟨rfl, ha, i, hi, hd, h4, hc3, hb⟩ ih
  simp only at ha hb hc3 hd ih ⊢
  subst ha hb hc3 hd
  have ei := q_nI (n := i) (by omega)
  have ei1 := q_nI (n := i + 1) (by omega)
  have ek := q_nI (n := ct (tP m n a i) 24) (by omega)
  have fin : (ct (on m n) 24 ≤ i ∨ 4 ≤ ct (tP m n a i) 24) → pX4_teamTotal_b76 post (su (tP m n a i) (tot m n) 24) (nI (ct (tP m n a i) 24)) w := fun he2 => by
    obtain ⟨g1, g2⟩ := tP_end hI h4 he2
    unfold pX4_teamTotal_b76 pX4_teamTotal_b87
    unfold tmR at hp
    refine ⟨fun c => ?_, fun c => ?_⟩
    · simp only [q_eq, ek, Int32.reduceToInt] at c
      rw [if_neg (fun q => c (by rw [g2.mpr q]; rfl)), ← g1] at hp
      exact hp
    · simp only [q_eq, ek, Int32.reduceToInt] at c
      rw [if_pos (g2.mp (by omega))] at hp
      exact hp
  unfold pX4_teamTotal_b7
  rw [hL]
  refine ⟨fun c => ?_, fun c => ⟨fun c4 => ?_, fun c4 => ?_⟩⟩
  · simp only [q_le, ei, eL] at c
    exact fin (Or.inl (by omega))
  · simp only [q_le, ek, Int32.reduceToInt] at c4
    exact fin (Or.inr (by omega))
  · simp only [q_le, ei, eL] at c
    simp only [q_le, ek, Int32.reduceToInt] at c4
    obtain ⟨j, hj, oj, pj⟩ := pos_onto (m := m) (n := n) (i := i) (by omega)
    have ej := q_nI (n := j) (by omega)
    refine e_jumperAt hO i (by omega) ?_
    rw [show od m n f 24 i = nI j by rw [← pj]; exact od_at (Nat.le_refl _) hj oj]
    have g18 : gA w 18 (nI j) = m.2 18 j := by unfold gA; rw [q_cl ej, hCu.a 18]
    have st := tP_step (t := a) hI oj
    rw [pj] at st
    have nx : ∀ r s : Int32, r = su (tP m n a (i + 1)) (tot m n) 24 → s = nI (ct (tP m n a (i + 1)) 24) → ct (tP m n a (i + 1)) 24 ≤ 4 → K (a, r, s, nI i + 1) w := fun r s hr hs h5 =>
      ih _ _ ⟨rfl, rfl, i + 1, by omega, nI_1 i, h5, hs, hr⟩ (by simp only [nI_1, q_cl ei, q_cl ei1]; omega)
    have no : tS m n a j = false → pX4_teamTotal_b70 (fun (x1 x2 x3 x4 : Int32) z => K (x1, x2, x3, x4) z) post a (su (tP m n a i) (tot m n) 24) (nI (ct (tP m n a i) 24)) (nI i) w := fun hs => by
      have e1 : ∀ v, v < 24 → tP m n a (i + 1) v = tP m n a i v := fun v hv => by rw [st v hv, hs]; simp
      exact nx _ _ (su_cong e1).symm (by rw [ct_cong e1]) (by rw [ct_cong e1]; exact h4)
    refine e_isJumper hI hCu (nI j) (fun _ => ⟨fun c => absurd c (by decide), fun _ => ⟨q_in ej hj, fun c5 => no ?_, fun c5 => ?_⟩⟩) (fun hN => absurd ⟨by omega, by rw [ej]; have := (on_24 hI oj).2; omega⟩ hN)
    · rw [g18] at c5
      simp [tS, c5]
    · rw [g18] at c5
      have sj : tS m n a j = true := by simp [tS, c5, oj]
      have np : tP m n a i j = false := by simp [tP, pj]
      refine e_totalOf hB.2.2.2.1 j hj (fun v hv => ?_)
      have e1 : ∀ v, v < 24 → tP m n a (i + 1) v = (tP m n a i v || decide (v = j)) := fun v hv => by rw [st v hv, sj]; simp
      refine nx _ _ ?_ ?_ ?_
      · rw [hv, su_cong e1, su_add hj np]
      · rw [ct_cong e1, ct_add hj np, nI_1]
      · rw [ct_cong e1, ct_add hj np]; omega
theorem g_team {post : Int32 → Sg → Prop} (hI : iv m) (hM : Mr m y) (e t : Int32) (h0 : ¬ okTeam m e t → post (-10000) y)
    (h1 : okTeam m e t → ∀ y', Mr m y' → post (tmR m e.toNatClampNeg t) y') : pX5_team e t y post := by
  have hJ := hI.2.1.2
  unfold pX5_team pX5_team_b17
  refine g_isKnowing hI hM e (fun he => ⟨fun c => absurd c (by decide), fun _ => ?_⟩) (fun he => ⟨fun _ => h0 (fun q => he q.1), fun c => absurd rfl c⟩)
  refine g_lies t 0 5 (fun ht => ⟨fun _ => ?_, fun c => absurd c (by decide)⟩) (fun ht => ⟨fun c => absurd rfl c, fun _ => h0 (fun q => ht q.2)⟩)
  have hx := h1 ⟨he, ht⟩
  clear h1 h0
  obtain ⟨hn, hnE⟩ := isK_ok hI he
  generalize e.toNatClampNeg = n at *
  subst hn
  refine g_works hI hM hnE fun u hW => ?_
  have eJ := hW.1.J hI
  have hp := hx u hW.1
  have out : ∀ v, nJ m ≤ v → tS m n t v = false := fun v hv => by unfold tS; rw [on_out hv]; rfl
  have hp : post (if ct (tS m n t) (nJ m) = 0 then -10000 else su (fun j => tS m n t j && decide (rk (tS m n t) (tM m n) j < 4)) (tot m n) (nJ m)) u := by
    unfold tmR at hp
    rw [su_rk (fal_bf hI hnE) fal_tM 4, ct_ext hJ (fun v h1 _ => out v h1), su_ext hJ (fun v h1 _ => by rw [out v h1]; rfl)] at hp
    exact hp
  unfold pX5_team_l34
  refine lp_intro (fun (a : Int32 × Int32 × Int32 × Int32) (w : Sg) => w = u ∧ a.1 = t ∧ ∃ j : Nat, j ≤ nJ m ∧ a.2.2.2 = nI j ∧ a.2.1 = nI (ct (tS m n t) j) ∧ a.2.2.1 = su (fun j => tS m n t j && decide (rk (tS m n t) (tM m n) j < 4)) (tot m n) j) (fun a _ => 24 - a.2.2.2.toNatClampNeg) ?_ _ _ ⟨rfl, rfl, 0, by omega, rfl, rfl, rfl⟩
  rintro K ⟨a, b, c3, d⟩ w ⟨rfl, ha, j, hj, hd, hb, hc3⟩ ih
  simp only at ha hb hc3 hd ih ⊢
  subst ha hb hc3 hd
  have e := q_nI (n := j) (by omega)
  have e1 := q_nI (n := j + 1) (by omega)
  have hcj := ct_le (tS m n a) j
  have ec := q_nI (n := ct (tS m n a) j) (by omega)
  unfold pX5_team_b34 pX5_team_b203
  refine ⟨fun c => ⟨fun d => ?_, fun d => ?_⟩, fun c => ⟨?_, fun d => ?_, fun d => ⟨?_, fun f => ?_, fun f => ?_⟩⟩⟩
  all_goals simp only [q_le, e, eJ] at c
  · have : j = nJ m := by omega
    subst this
    simp only [q_eq, ec, Int32.reduceToInt] at d
    rw [if_neg (by omega)] at hp
    exact hp
  · have : j = nJ m := by omega
    subst this
    simp only [q_eq, ec, Int32.reduceToInt] at d
    rw [if_pos (by omega)] at hp
    exact hp
  · exact q_in e (by omega)
  · have g9 : gA w 9 (nI j) = b2 (on m n j) := by unfold gA; rw [q_cl e, hW.2.1 j (by omega)]
    rw [g9] at d
    have hs : tS m n a j = false := by unfold tS; rw [b2_eq d]; rfl
    exact ih _ _ ⟨rfl, rfl, j + 1, by omega, nI_1 j, by simp [ct, hs], by simp [su, hs]⟩ (by simp only [nI_1, q_cl e, q_cl e1]; omega)
  · exact q_in e (by omega)
  all_goals have g9 : gA w 9 (nI j) = b2 (on m n j) := by unfold gA; rw [q_cl e, hW.2.1 j (by omega)]
  all_goals have g3 : gA w 3 (nI j) = m.2 18 j := by unfold gA; rw [q_cl e, hW.1.2.2.2.1 j (by omega)]
  all_goals rw [g9] at d
  all_goals have oj := b2_ne d
  all_goals rw [g3] at f
  · have sj : tS m n a j = true := by simp [tS, f, oj]
    unfold pX5_team_l76
    refine lp_intro (fun (q : Int32 × Int32 × Int32 × Int32 × Int32 × Int32) (w2 : Sg) => w2 = w ∧ q.1 = a ∧ q.2.1 = nI (ct (tS m n a) (j + 1)) ∧ q.2.2.1 = su (fun j => tS m n a j && decide (rk (tS m n a) (tM m n) j < 4)) (tot m n) j ∧ q.2.2.2.1 = nI j ∧ ∃ o : Nat, o ≤ nJ m ∧ q.2.2.2.2.2 = nI o ∧ q.2.2.2.2.1 = nI (ct (fun o => tS m n a o && tM m n j o) o)) (fun q _ => 24 - q.2.2.2.2.2.toNatClampNeg) ?_ _ _ ⟨rfl, rfl, by rw [nI_1]; simp [ct, sj], rfl, rfl, 0, by omega, rfl, rfl⟩
    rintro K2 ⟨x2, x3, x4, x5, x6, x7⟩ w2 ⟨rfl, h2, h3, h4, h5, o, ho, h7, h6⟩ ih2
    simp only at h2 h3 h4 h5 h7 h6 ih2 ⊢
    subst h2 h3 h4 h5 h7 h6
    have eo := q_nI (n := o) (by omega)
    have eo1 := q_nI (n := o + 1) (by omega)
    have hcr := ct_le (fun o => tS m n x2 o && tM m n j o) o
    have er := q_nI (n := ct (fun o => tS m n x2 o && tM m n j o) o) (by omega)
    have s2 : gA w2 12 (nI j) = tot m n j := by unfold gA; rw [q_cl e, hW.2.2.2.2 j (by omega) oj]
    unfold pX5_team_b76 pX5_team_b182 pX5_team_b185 pX5_team_b149 pX5_team_b153 pX5_team_b154
    refine ⟨fun k => ?_, fun k => ⟨?_, ?_⟩⟩
    · simp only [q_le, eo, eJ] at k
      have : o = nJ m := by omega
      subst this
      have hrk : rk (tS m n x2) (tM m n) j = ct (fun o => tS m n x2 o && tM m n j o) (nJ m) := ct_ext hJ (fun v h1 _ => by rw [out v h1]; rfl)
      have nx : ∀ v : Int32, v = su (fun j => tS m n x2 j && decide (rk (tS m n x2) (tM m n) j < 4)) (tot m n) (j + 1) → K (x2, nI (ct (tS m n x2) (j + 1)), v, nI j + 1) w2 := fun v hv =>
        ih _ _ ⟨rfl, rfl, j + 1, by omega, nI_1 j, rfl, hv⟩ (by simp only [nI_1, q_cl e, q_cl e1]; omega)
      refine ⟨fun k4 v hv => nx v ?_, fun k4 => ⟨q_in e (by omega), fun v hv => nx v ?_⟩⟩
      · simp only [q_le, er, Int32.reduceToInt] at k4
        have : ¬ rk (tS m n x2) (tM m n) j < 4 := by omega
        rw [hv, Int32.add_zero]
        simp [su, this]
      · simp only [q_le, er, Int32.reduceToInt] at k4
        have : rk (tS m n x2) (tM m n) j < 4 := by omega
        rw [hv, s2]
        simp [su, this, sj]
    · simp only [q_le, eo, eJ] at k
      exact q_in eo (by omega)
    · simp only [q_le, eo, eJ] at k
      have g9 : gA w2 9 (nI o) = b2 (on m n o) := by unfold gA; rw [q_cl eo, hW.2.1 o (by omega)]
      have g3 : gA w2 3 (nI o) = m.2 18 o := by unfold gA; rw [q_cl eo, hW.1.2.2.2.1 o (by omega)]
      rw [g9, g3, s2]
      have nx2 : ∀ v : Int32, v = nI (ct (fun o => tS m n x2 o && tM m n j o) (o + 1)) → K2 (x2, nI (ct (tS m n x2) (j + 1)), su (fun j => tS m n x2 j && decide (rk (tS m n x2) (tM m n) j < 4)) (tot m n) j, nI j, v, nI o + 1) w2 := fun v hv =>
        ih2 _ _ ⟨rfl, rfl, rfl, rfl, rfl, o + 1, by omega, nI_1 o, hv⟩ (by simp only [nI_1, q_cl eo, q_cl eo1]; omega)
      have fF : (tS m n x2 o && tM m n j o) = false → ∀ v1 : Int32, v1 = nI (ct (fun o => tS m n x2 o && tM m n j o) o) + 0 → K2 (x2, nI (ct (tS m n x2) (j + 1)), su (fun j => tS m n x2 j && decide (rk (tS m n x2) (tM m n) j < 4)) (tot m n) j, nI j, v1, nI o + 1) w2 := fun hq v1 hv1 =>
        nx2 _ (by rw [hv1, Int32.add_zero]; simp [ct, hq])
      have fT : (tS m n x2 o && tM m n j o) = true → ∀ v1 : Int32, v1 = nI (ct (fun o => tS m n x2 o && tM m n j o) o) + 1 → K2 (x2, nI (ct (tS m n x2) (j + 1)), su (fun j => tS m n x2 j && decide (rk (tS m n x2) (tM m n) j < 4)) (tot m n) j, nI j, v1, nI o + 1) w2 := fun hq v1 hv1 =>
        nx2 _ (by rw [hv1, nI_1]; simp only [ct, hq, if_true])
      refine ⟨fun d1 => fF ?_, fun d1 => ⟨q_in eo (by omega), fun d2 => fF ?_, fun d2 => ⟨q_in eo (by omega), q_in e (by omega), ?_⟩⟩⟩
      · simp [tS, b2_eq d1]
      · simp [tS, d2]
      · have oo := b2_ne d1
        have so : tS m n x2 o = true := by simp [tS, oo, d2]
        have s1 : gA w2 12 (nI o) = tot m n o := by unfold gA; rw [q_cl eo, hW.2.2.2.2 o (by omega) oo]
        rw [s1]
        refine ⟨fun d3 => fT ?_, fun d3 => ⟨q_in eo (by omega), q_in e (by omega), fun d4 => fF ?_, fun d4 => ⟨fun d5 => fF ?_, fun d5 => fT ?_⟩⟩⟩
        · rw [so, tM, decide_eq_true d3]; rfl
        · rw [so, tM, decide_eq_false d3, decide_eq_false d4]; rfl
        · simp only [q_le, e, eo] at d5
          rw [so, tM, decide_eq_false d3, decide_eq_false (show ¬ o < j by omega)]; simp
        · simp only [q_le, e, eo] at d5
          rw [so, tM, decide_eq_true d4, decide_eq_true (show o < j by omega)]; simp
  · have hs : tS m n a j = false := by simp [tS, f]
    exact ih _ _ ⟨rfl, rfl, j + 1, by omega, nI_1 j, by simp [ct, hs], by simp [su, hs]⟩ (by simp only [nI_1, q_cl e, q_cl e1]; omega)
end TEA
