/-- the jump of an entry -/
def qk (m : Sg) (k : Nat) : Nat := (m.2 4 k).toNatClampNeg
def cnd (m : Sg) (n k : Nat) : Bool := decide (lst m 0 (qk m k) n = some k) && may m (qk m k) n
def mlo (m : Sg) (k : Nat) : Option Nat → Bool
  | none => true
  | some b => decide ((vl m b 0).toInt < (vl m k 0).toInt)
def ml (m : Sg) (n : Nat) : Nat → Option Nat
  | 0 => none
  | k + 1 => if cnd m n k = true ∧ mlo m k (ml m n k) = true then some k else ml m n k
def encN : Option Nat → Int32
  | none => -10000
  | some k => nI k
section MRE
variable {m y : Sg} {n : Nat}
theorem qk_ok (hI : iv m) {k : Nat} (hk : k < nE m) : m.2 4 k = nI (qk m k) ∧ qk m k < 48 := by
  obtain ⟨s, q, g1, g2, g3, g4, g5, g6⟩ := hI.2.2.2.2.2.2.1 k hk
  have e : qk m k = q := by unfold qk; rw [g5]; exact q_cl (q_nI (by omega))
  rw [e]
  exact ⟨g5, g2⟩
theorem qk_of {q k : Nat} (hq : q < 48) (h : lst m 0 q n = some k) : qk m k = q := by
  unfold qk
  rw [(lst_is h).2]
  exact q_cl (q_nI (by omega))
theorem ml_is : ∀ {k b : Nat}, ml m n k = some b → b < k ∧ cnd m n b = true ∧ ∀ l, l < k → cnd m n l = true → (vl m l 0).toInt < (vl m b 0).toInt ∨ ((vl m l 0).toInt = (vl m b 0).toInt ∧ b ≤ l)
  | 0, b, h => by cases h
  | k + 1, b, h => by
    unfold ml at h
    split at h
    · rename_i hc
      cases h
      refine ⟨by omega, hc.1, fun l hl hcl => ?_⟩
      by_cases e : l = k
      · subst e; right; exact ⟨rfl, Nat.le_refl _⟩
      · cases hb : ml m n k with
        | none =>
          exact absurd hcl (by rw [ml_none hb l (by omega)]; decide)
        | some b =>
          have := (ml_is hb).2.2 l (by omega) hcl
          have h2 := hc.2
          rw [hb] at h2
          have h2 : (vl m b 0).toInt < (vl m k 0).toInt := by simpa [mlo] using h2
          left
          omega
    · rename_i hc
      have := ml_is h
      refine ⟨by omega, this.2.1, fun l hl hcl => ?_⟩
      by_cases e : l = k
      · subst e
        have h2 : ¬ mlo m l (ml m n l) = true := fun q => hc ⟨hcl, q⟩
        rw [h] at h2
        have h2 : ¬ (vl m b 0).toInt < (vl m l 0).toInt := by simpa [mlo] using h2
        omega
      · exact this.2.2 l (by omega) hcl
where ml_none : ∀ {k : Nat}, ml m n k = none → ∀ l, l < k → cnd m n l = false
  | 0, _, l, hl => absurd hl (Nat.not_lt_zero l)
  | k + 1, h, l, hl => by
    unfold ml at h
    split at h
    · cases h
    · rename_i hc
      by_cases e : l = k
      · subst e
        cases hcl : cnd m n l with
        | false => rfl
        | true => exact absurd ⟨hcl, by rw [h]; rfl⟩ hc
      · exact ml_none h l (by omega)
theorem lgr_iff {q b k l : Nat} (hk : lst m 0 q n = some k) (hl : lst m 0 b n = some l) : lgr m n q b = true ↔ (vl m l 0).toInt < (vl m k 0).toInt ∨ ((vl m k 0).toInt = (vl m l 0).toInt ∧ k < l) := by
  unfold lgr
  rw [hk, hl]
  simp
theorem rln_of {q k : Nat} (hk : lst m 0 q n = some k) : rln m q n = vl m k 0 := by unfold rln; rw [hk]
theorem rj_none : ∀ {Q : Nat}, rj m n Q = none → ∀ q, q < Q → may m q n = true → ¬ m.1 3 < rln m q n
  | 0, _, q, hq, _ => absurd hq (Nat.not_lt_zero q)
  | Q + 1, h, q, hq, hm => by
    unfold rj at h
    split at h
    · cases h
    · rename_i hc
      by_cases e : q = Q
      · subst e
        exact fun q2 => hc ⟨hm, q2, by rw [h]; rfl⟩
      · exact rj_none h q (by omega) hm
theorem rj_is : ∀ {Q q : Nat}, rj m n Q = some q → ∀ k, lst m 0 q n = some k → ∀ b, b < Q → may m b n = true → m.1 3 < rln m b n → ∀ l, lst m 0 b n = some l → (vl m l 0).toInt < (vl m k 0).toInt ∨ ((vl m l 0).toInt = (vl m k 0).toInt ∧ k ≤ l)
  | 0, q, h => by cases h
  | Q + 1, q, h => by
    intro k hk b hb hm hlt l hl
    unfold rj at h
    split at h
    · rename_i hc
      cases h
      by_cases e : b = Q
      · subst e
        rw [hk] at hl
        cases hl
        right
        exact ⟨rfl, Nat.le_refl _⟩
      · cases hr : rj m n Q with
        | none => exact absurd hlt (rj_none hr b (by omega) hm)
        | some b2 =>
          have hb2 := rj_lt hr
          obtain ⟨l2, hl2⟩ := may_on hb2.2.1
          have h1 := rj_is hr l2 hl2 b (by omega) hm hlt l hl
          have h2 := hc.2.2
          rw [hr] at h2
          have h2 := (lgr_iff hk hl2).mp h2
          omega
    · rename_i hc
      by_cases e : b = Q
      · subst e
        have h2 : ¬ lgo m n b (rj m n b) = true := fun q2 => hc ⟨hm, hlt, q2⟩
        rw [h] at h2
        have h2 : ¬ ((vl m k 0).toInt < (vl m l 0).toInt ∨ ((vl m l 0).toInt = (vl m k 0).toInt ∧ l < k)) := fun z => h2 ((lgr_iff hl hk).mpr z)
        omega
      · exact rj_is h k hk b (by omega) hm hlt l hl
/-- both find the same -/
theorem rj_ml (hI : iv m) (hn : n ≤ nE m) : (∀ b, ml m n n = some b → m.1 3 < vl m b 0 → rj m n 48 = some (qk m b) ∧ lst m 0 (qk m b) n = some b) ∧ (∀ b, ml m n n = some b → ¬ m.1 3 < vl m b 0 → rj m n 48 = none) ∧ (ml m n n = none → rj m n 48 = none) := by
  have cn : ∀ {q k : Nat}, q < 48 → lst m 0 q n = some k → may m q n = true → cnd m n k = true := fun hq hk hm => by
    unfold cnd
    rw [qk_of hq hk, hk, hm]
    simp
  have nc : ∀ {b : Nat}, cnd m n b = true → lst m 0 (qk m b) n = some b ∧ may m (qk m b) n = true := fun h => by
    unfold cnd at h
    simpa using h
  refine ⟨fun b hb hlt => ?_, fun b hb hlt => ?_, fun hb => ?_⟩
  · obtain ⟨h1, h2, h3⟩ := ml_is hb
    obtain ⟨h4, h5⟩ := nc h2
    have hq := (qk_ok hI (show b < nE m by omega)).2
    refine ⟨?_, h4⟩
    cases hr : rj m n 48 with
    | none => exact absurd (by rw [rln_of h4]; exact hlt) (rj_none hr _ hq h5)
    | some q =>
      have hq2 := rj_lt hr
      obtain ⟨k, hk⟩ := may_on hq2.2.1
      have g1 := rj_is hr k hk _ hq h5 (by rw [rln_of h4]; exact hlt) b h4
      have g2 := h3 k (lst_lt hk) (cn hq2.1 hk hq2.2.1)
      have : k = b := by omega
      subst this
      rw [qk_of hq2.1 hk]
  · obtain ⟨h1, h2, h3⟩ := ml_is hb
    cases hr : rj m n 48 with
    | none => rfl
    | some q =>
      have hq2 := rj_lt hr
      obtain ⟨k, hk⟩ := may_on hq2.2.1
      have g2 := h3 k (lst_lt hk) (cn hq2.1 hk hq2.2.1)
      have g3 := hq2.2.2
      rw [rln_of hk] at g3
      rw [q_lt] at g3 hlt
      omega
  · cases hr : rj m n 48 with
    | none => rfl
    | some q =>
      have hq2 := rj_lt hr
      obtain ⟨k, hk⟩ := may_on hq2.2.1
      have := ml_is.ml_none hb k (lst_lt hk)
      rw [cn hq2.1 hk hq2.2.1] at this
      cases this
theorem g_isClean {post : Int32 → Sg → Prop} (hI : iv m) (hM : Mr m y) (q : Nat) (hq : q < 48) (h : post (b2 (cln m (lst m 2 q (nE m)))) y) : pX5_isClean (nI (jm q)) y post := by
  have hE := hI.2.2.1.2
  unfold pX5_isClean
  rw [hM.1.2.2.1, hI.2.2.1.1]
  refine g_lastOf hI hM (Nat.le_refl _) 2 q (by omega) hq ?_
  cases hl : lst m 2 q (nE m) with
  | none =>
    rw [hl] at h
    exact ⟨fun c => absurd c (by decide), fun _ => h⟩
  | some k =>
    rw [hl] at h
    have hk := lst_E (Nat.le_refl _) hl
    have h : post (b2 (mk5 m k 5)) y := h
    refine ⟨fun _ => ?_, fun c => absurd (nI_pos' (by omega)) c⟩
    unfold pX5_isClean_l19
    show lp _ (nI k, 0) y
    refine lp_intro (fun (a : Int32 × Int32) (w : Sg) => w = y ∧ a.1 = nI k ∧ ∃ i : Nat, i ≤ 5 ∧ a.2 = nI i ∧ mk5 m k i = true) (fun a _ => 5 - a.2.toNatClampNeg) ?_ _ _ ⟨rfl, rfl, 0, by omega, rfl, rfl⟩
    rintro K ⟨a, b⟩ w ⟨rfl, ha, i, hi, hb, hm⟩ ih
    simp only at ha hb ih ⊢
    subst ha hb
    have e := q_nI (n := i) (by omega)
    have e1 := q_nI (n := i + 1) (by omega)
    unfold pX5_isClean_b19
    refine ⟨fun c => ?_, fun c => ?_⟩
    · simp only [q_le, e, Int32.reduceToInt] at c
      have : i = 5 := by omega
      subst this
      rw [hm] at h
      exact h
    · simp only [q_le, e, Int32.reduceToInt] at c
      obtain ⟨g1, g2⟩ := hM.val hI hk (show i < 5 by omega)
      rw [g2]
      refine ⟨g1, fun d => ?_, fun d => ?_⟩
      · simp only [q_le, Int32.reduceToInt] at d
        exact ih _ _ ⟨rfl, rfl, i + 1, by omega, nI_1 i, by simp [mk5, hm, d]⟩ (by simp only [nI_1, q_cl e, q_cl e1]; omega)
      · simp only [q_le, Int32.reduceToInt] at d
        have key : ∀ j, i < j → mk5 m k j = false := by
          intro j hj
          induction j with
          | zero => omega
          | succ j ihj =>
            unfold mk5
            by_cases e : i = j
            · subst e; simp [d]
            · rw [ihj (by omega)]; rfl
        rw [key 5 (by omega)] at h
        exact h
theorem g_longest {post : Int32 → Sg → Prop} (hI : iv m) (hM : Mr m y) (h : post (encN (ml m (nE m) (nE m))) y) : pX5_longest y post := by
  have hE := hI.2.2.1.2
  have eE := hM.E hI
  unfold pX5_longest pX5_longest_l6
  refine lp_intro (fun (a : Int32 × Int32) (w : Sg) => w = y ∧ ∃ k : Nat, k ≤ nE m ∧ a.2 = nI k ∧ a.1 = encN (ml m (nE m) k)) (fun a _ => 200 - a.2.toNatClampNeg) ?_ _ _ ⟨rfl, 0, by omega, rfl, rfl⟩
  rintro K ⟨a, b⟩ w ⟨rfl, k, hk, hb, ha⟩ ih
  simp only at ha hb ih ⊢
  subst ha hb
  have e := q_nI (n := k) (by omega)
  have e1 := q_nI (n := k + 1) (by omega)
  unfold pX5_longest_b6
  refine ⟨fun c => ?_, fun c => ?_⟩
  · simp only [q_le, e, eE] at c
    have : k = nE m := by omega
    subst this
    exact h
  · simp only [q_le, e, eE] at c
    have hkE : k < nE m := by omega
    obtain ⟨e4, hq⟩ := qk_ok hI hkE
    obtain ⟨e6, e7, -⟩ := hM.2.2.2.2.2.2.1 k hkE
    have g6 : gA w 6 (nI k) = m.2 3 k := by unfold gA; rw [q_cl e]; exact e6
    have g7 : gA w 7 (nI k) = nI (jm (qk m k)) := by unfold gA; rw [q_cl e]; exact e7 _ hq e4
    have hm : 200 - (nI k + 1).toNatClampNeg < 200 - (nI k).toNatClampNeg := by simp only [nI_1, q_cl e, q_cl e1]; omega
    have no : ¬ (cnd m (nE m) k = true ∧ mlo m k (ml m (nE m) k) = true) → pX5_longest_b92 (fun (x1 x2 : Int32) z => K (x1, x2) z) post (encN (ml m (nE m) k)) (nI k) w := fun hc =>
      ih _ _ ⟨rfl, k + 1, by omega, nI_1 k, by show encN _ = encN (ml m (nE m) (k + 1)); rw [show ml m (nE m) (k + 1) = ml m (nE m) k from if_neg hc]⟩ hm
    have yes : (cnd m (nE m) k = true ∧ mlo m k (ml m (nE m) k) = true) → pX5_longest_b90 (fun (x1 x2 : Int32) z => K (x1, x2) z) post (nI k) w := fun hc =>
      ih _ _ ⟨rfl, k + 1, by omega, nI_1 k, by show nI k = encN (ml m (nE m) (k + 1)); rw [show ml m (nE m) (k + 1) = some k from if_pos hc]; rfl⟩ hm
    have hcn : lst m 0 (qk m k) (nE m) = some k → hs m (qk m k) (nE m) = true → cln m (lst m 2 (qk m k) (nE m)) = true → cnd m (nE m) k = true := fun h1 h2 h3 => by
      unfold cnd may; rw [h1, h2, h3]; simp
    have hnc : cnd m (nE m) k = true → lst m 0 (qk m k) (nE m) = some k ∧ hs m (qk m k) (nE m) = true ∧ cln m (lst m 2 (qk m k) (nE m)) = true := fun h => by
      unfold cnd may at h
      simp at h
      exact ⟨h.1, h.2.2, h.2.1⟩
    refine ⟨q_in e (by omega), fun v3 hv3 => ?_⟩
    rw [g7] at hv3
    subst hv3
    rw [g6, hM.1.2.2.1, hI.2.2.1.1]
    refine ⟨q_in e (by omega), fun c1 => no (fun hc => c1 ?_), fun c1 => ?_⟩
    · exact (lst_is (hnc hc.1).1).1
    · refine g_lastOf hI hM (Nat.le_refl _) 0 _ (by omega) hq ⟨fun c2 => no (fun hc => c2 ?_), fun c2 => ?_⟩
      · rw [(hnc hc.1).1]; rfl
      · have hl : lst m 0 (qk m k) (nE m) = some k := by
          cases hl : lst m 0 (qk m k) (nE m) with
          | none =>
            rw [hl] at c2
            have : (enc none).toInt = (nI k).toInt := by rw [c2]
            rw [show (enc none).toInt = -1 by decide, e] at this
            omega
          | some l =>
            rw [hl] at c2
            have hl2 := lst_lt hl
            rw [(nI_eq (by omega) (by omega)).mp c2]
        rw [hM.1.2.2.1, hI.2.2.1.1]
        refine g_has hI hM (Nat.le_refl _) _ hq ⟨fun c3 => no (fun hc => ?_), fun c3 => g_isClean hI hM _ hq ⟨fun c4 => ?_, fun c4 => no (fun hc => ?_)⟩⟩
        · have := (hnc hc.1).2.1; rw [b2_eq c3] at this; cases this
        · have hc := hcn hl (b2_ne c3) (b2_ne c4)
          cases hb : ml m (nE m) k with
          | none =>
            rw [hb] at no yes
            exact ⟨fun _ => yes ⟨hc, rfl⟩, fun c => absurd (show encN none < 0 by decide) c⟩
          | some b =>
            have hbl := (ml_is hb).1
            rw [hb] at no yes
            obtain ⟨g1, g2⟩ := hM.val0 hI hkE
            obtain ⟨g3, g4⟩ := hM.val0 hI (show b < nE m by omega)
            rw [show encN (some b) = nI b from rfl, g2, g4]
            refine ⟨fun c => absurd c (nI_pos (by omega)), fun _ => ⟨g1, g3, fun c5 => no (fun hc2 => ?_), fun c5 => yes ⟨hc, ?_⟩⟩⟩
            · have h2 : (vl m b 0).toInt < (vl m k 0).toInt := by simpa [mlo] using hc2.2
              rw [q_le] at c5
              omega
            · rw [q_le] at c5
              simp [mlo]
              omega
        · have := (hnc hc.1).2.2; rw [b2_eq c4] at this; cases this
theorem g_isGreater {post : Int32 → Sg → Prop} (hI : iv m) (hM : Mr m y) (o : Option Nat) (ho : ∀ k, o = some k → k < nE m ∧ 0 ≤ (vl m k 0).toInt) (h1 : ∀ k, o = some k → m.1 3 < vl m k 0 → post 1 y) (h0 : (o = none ∨ ∃ k, o = some k ∧ ¬ m.1 3 < vl m k 0) → post 0 y) : pX5_isGreater (encN o) y post := by
  have hE := hI.2.2.1.2
  unfold pX5_isGreater pX5_isGreater_b29 pX5_isGreater_b33 pX5_isGreater_b34
  cases o with
  | none => exact ⟨fun _ => ⟨Or.inl rfl, h0 (Or.inl rfl)⟩, fun c => absurd (show encN none < 0 by decide) c⟩
  | some k =>
    obtain ⟨hk, hv⟩ := ho k rfl
    obtain ⟨g1, g2⟩ := hM.val0 hI hk
    rw [show encN (some k) = nI k from rfl, g2]
    refine ⟨fun c => absurd c (nI_pos (by omega)), fun _ => ?_⟩
    rcases hM.2.1 with ⟨r1, r2, r3⟩ | ⟨r1, r2, r3⟩
    · refine ⟨fun _ => ⟨Or.inr rfl, h1 k rfl ?_⟩, fun c => absurd r2 c⟩
      rw [r1, q_lt, q_m1]; omega
    · refine ⟨fun c => ?_, fun _ => ⟨g1, fun c => ⟨Or.inl rfl, h0 (Or.inr ⟨k, rfl, ?_⟩)⟩, fun c => ⟨Or.inr rfl, h1 k rfl ?_⟩⟩⟩
      · rw [r2, q_eq, q_mN] at c; omega
      · rw [r2] at c; exact Int32.not_lt.mpr c
      · rw [r2] at c; exact Int32.not_le.mp c
theorem ml_bd (hI : iv m) : ∀ k, ml m (nE m) (nE m) = some k → k < nE m ∧ 0 ≤ (vl m k 0).toInt := fun k hk => by
  obtain ⟨h1, h2, -⟩ := ml_is hk
  unfold cnd at h2
  simp at h2
  exact ⟨h1, (rd_bd hI (Nat.le_refl _) (qk_ok hI h1).2 h2.1).1⟩
theorem jm32 {q : Nat} (hq : q < 48) : nI (jm q) - nI (jm q) / 32 * 32 = nI (q % 24) := by
  have : nI (jm q) - nI (jm q) / 32 * 32 = nI (jm q % 32) := pk_rem (a := jm q) (d := 32) (by unfold jm; omega) (by omega) (by omega)
  rw [this]
  unfold jm
  rw [show (q % 24 + 32 * (q / 24)) % 32 = q % 24 by omega]
theorem g_record {post : Int32 → Sg → Prop} (hI : iv m) (hM : Mr m y) (w : Int32) (h1 : w = 0 ∨ w = 1 → post (recR m w) y) (h0 : ¬ (w = 0 ∨ w = 1) → post (-10000) y) : pX5_record w y post := by
  have hE := hI.2.2.1.2
  have hw01 : (0 : Int32).toInt ≤ w.toInt ∧ w.toInt ≤ (1 : Int32).toInt ↔ w = 0 ∨ w = 1 := by
    rw [q_eq, q_eq, q_0, show (1 : Int32).toInt = 1 by decide]; omega
  obtain ⟨R1, R2, R3⟩ := rj_ml hI (Nat.le_refl (nE m))
  unfold pX5_record pX5_record_b41 pX5_record_b66
  refine g_lies _ _ _ (fun hw => ⟨fun _ => ?_, fun c => absurd c (by decide)⟩) (fun hw => ⟨fun c => absurd rfl c, fun _ => h0 (fun q => hw (hw01.mpr q))⟩)
  have hw := hw01.mp hw
  have hp := h1 hw
  unfold recR at hp
  refine g_longest hI hM (g_isGreater hI hM _ (ml_bd hI) (fun k hk hlt => ⟨fun _ => ?_, fun c => absurd c (by decide)⟩) (fun hno => ⟨fun c => absurd rfl c, fun _ => ?_⟩))
  · obtain ⟨r1, r2⟩ := R1 k hk hlt
    have hkE := (ml_bd hI k hk).1
    obtain ⟨e4, hq⟩ := qk_ok hI hkE
    have e := q_nI (n := k) (by omega)
    have g7 : gA y 7 (nI k) = nI (jm (qk m k)) := by unfold gA; rw [q_cl e]; exact (hM.2.2.2.2.2.2.1 k hkE).2.1 _ hq e4
    obtain ⟨g1, g2⟩ := hM.val0 hI hkE
    rw [r1] at hp
    simp only at hp
    rw [hk, show encN (some k) = nI k from rfl, g7, g2, jm32 hq]
    refine ⟨fun c => ⟨q_in e (by omega), ?_⟩, fun c => ⟨g1, ?_⟩⟩
    · rw [if_neg c] at hp; exact hp
    · rw [if_pos c, rln_of r2] at hp; exact hp
  · have hr : rj m (nE m) 48 = none := by
      rcases hno with h | ⟨k, hk, hlt⟩
      · exact R3 h
      · exact R2 k hk hlt
    rw [hr] at hp
    simp only at hp
    rcases hM.2.1 with ⟨r1, r2, r3⟩ | ⟨r1, r2, r3⟩
    · rw [if_neg (by rw [r1]; decide)] at hp
      rw [r2, r3]
      exact ⟨fun _ => hp, fun _ => hp⟩
    · rw [if_pos (by rw [q_le, q_0]; exact r1)] at hp
      rw [r2, r3]
      exact ⟨fun c => by rw [if_neg c] at hp; exact hp, fun c => by rw [if_pos c] at hp; exact hp⟩
theorem sea_off : ∀ {j : Nat}, (∀ i, i < j → on m n i = false) → sea m n j = m.2 19
  | 0, _ => rfl
  | j + 1, h => by
    unfold sea
    rw [sea_off (fun i hi => h i (by omega))]
    funext i
    by_cases e : i = j
    · subst e; rw [upd_at]; unfold sp; rw [h i (by omega)]; simp
    · rw [upd_ne _ _ _ _ e]
theorem ct_0 {p : Nat → Bool} : ∀ {N : Nat}, ct p N = 0 → ∀ v, v < N → p v = false
  | 0, _, v, hv => absurd hv (Nat.not_lt_zero v)
  | N + 1, h, v, hv => by
    simp only [ct] at h
    by_cases e : v = N
    · subst e
      cases hp : p v with
      | false => rfl
      | true => rw [hp] at h; simp at h
    · exact ct_0 (N := N) (by omega) v (by omega)
theorem nE0 {x : Sg} (h : x.1 11 = 0) : nE x = 0 := by unfold nE; rw [h]; decide
theorem iv_clM (hI : iv m) : iv (clM m) := by
  have hR := iv_R hI (sea m (nE m) (nJ m))
  have k2 : ∀ l, (kr (sR m 19 (sea m (nE m) (nJ m)))).2 l = (sR m 19 (sea m (nE m) (nJ m))).2 l := fun l => by unfold kr; split <;> rfl
  have k1 : ∀ l, l ≠ 3 → l ≠ 4 → (kr (sR m 19 (sea m (nE m) (nJ m)))).1 l = m.1 l := fun l h3 h4 => by
    unfold kr
    split
    · rfl
    · rw [sS_ne _ _ _ _ h4, sS_ne _ _ _ _ h3]; rfl
  have k3 : -1 ≤ ((kr (sR m 19 (sea m (nE m) (nJ m)))).1 3).toInt ∧ ((kr (sR m 19 (sea m (nE m) (nJ m)))).1 3).toInt ≤ 600 := by
    unfold kr
    split
    · exact hI.2.2.2.2.2.2.2
    · rename_i q hq
      rw [sS_ne _ _ _ _ (by decide), sS_at]
      have h1 := rj_lt hq
      obtain ⟨k, hk⟩ := may_on h1.2.1
      rw [rln_of hk]
      have := rd_bd hR (Nat.le_refl _) h1.1 hk
      omega
  have c1 : ∀ l, l ≠ 11 → l ≠ 2 → (clM m).1 l = (kr (sR m 19 (sea m (nE m) (nJ m)))).1 l := fun l h1 h2 => by
    unfold clM
    rw [sS_ne _ _ _ _ h2, sS_ne _ _ _ _ h1]
  have c11 : (clM m).1 11 = 0 := by unfold clM; rw [sS_ne _ _ _ _ (by decide), sS_at]
  have c2 : ∀ l, (clM m).2 l = (sR m 19 (sea m (nE m) (nJ m))).2 l := fun l => k2 l
  have e0 : nT (clM m) = nT m := by unfold nT; rw [c1 0 (by decide) (by decide), k1 0 (by decide) (by decide)]
  have e1 : nJ (clM m) = nJ m := by unfold nJ; rw [c1 1 (by decide) (by decide), k1 1 (by decide) (by decide)]
  have e2 := nE0 c11
  refine ⟨?_, ?_, ?_, ?_, ?_, ?_, fun k hk => by omega, ?_⟩
  · rw [e0, c1 0 (by decide) (by decide), k1 0 (by decide) (by decide)]; exact hI.1
  · rw [e1, c1 1 (by decide) (by decide), k1 1 (by decide) (by decide)]; exact hI.2.1
  · rw [e2, c11]; exact ⟨rfl, by omega⟩
  · rw [c1 5 (by decide) (by decide), k1 5 (by decide) (by decide)]; exact hI.2.2.2.1
  · rw [c2 1, sR_ne _ _ _ _ (by decide)]; exact hI.2.2.2.2.1
  · rw [c2 6, sR_ne _ _ _ _ (by decide)]; exact hI.2.2.2.2.2.1
  · rw [c1 3 (by decide) (by decide)]; exact k3
theorem g_close {post : Int32 → Sg → Prop} (hI : iv m) (hM : Mr m y) (h0 : ct (on m (nE m)) 24 = 0 → ∀ y', Mr m y' → post (-10000) y')
    (h1 : ¬ ct (on m (nE m)) 24 = 0 → ∀ y', Mr (clM m) y' → post (nI (ct (on m (nE m)) 24)) y') : pX5_close y post := by
  have hJ := hI.2.1.2
  have hE := hI.2.2.1.2
  unfold pX5_close
  rw [hM.1.2.2.1, hI.2.2.1.1]
  refine g_works hI hM (Nat.le_refl _) fun u hW => ?_
  unfold pX5_close_l12
  refine lp_intro (fun (a : Int32 × Int32) (w : Sg) => ∃ j : Nat, j ≤ nJ m ∧ a.2 = nI j ∧ a.1 = nI (ct (on m (nE m)) j) ∧ (∃ f, w = sR u 4 f ∧ ∀ i, i < 24 → f i = sea m (nE m) j i)) (fun a _ => 24 - a.2.toNatClampNeg) ?_ _ _ ⟨0, by omega, rfl, rfl, u.2 4, (sR_self u 4).symm, hW.1.2.2.2.2.1⟩
  rintro K ⟨a, b⟩ w ⟨j, hj, hb, ha, f, hw, hf⟩ ih
  simp only at ha hb ih ⊢
  subst ha hb hw
  have e := q_nI (n := j) (by omega)
  have e1 := q_nI (n := j + 1) (by omega)
  have eJ0 := hW.1.J hI
  have eJ : ((sR u 4 f).1 1).toInt = (nJ m : Int) := eJ0
  unfold pX5_close_b12
  refine ⟨fun c => ?_, fun c => ?_⟩
  · simp only [q_le, e, eJ] at c
    have : j = nJ m := by omega
    subst this
    have hct : ct (on m (nE m)) (nJ m) = ct (on m (nE m)) 24 := (ct_ext hJ (fun v h1 _ => on_out h1)).symm
    have hcl := ct_le (on m (nE m)) 24
    rw [hct]
    have ua : ∀ l, l ≠ 4 → (sR u 4 f).2 l = u.2 l := fun l hl => sR_ne _ _ _ _ hl
    have ma : ∀ l, l ≠ 19 → (sR m 19 (sea m (nE m) (nJ m))).2 l = m.2 l := fun l hl => sR_ne _ _ _ _ hl
    have hI1 := iv_R hI (sea m (nE m) (nJ m))
    have hM1 : Mr (sR m 19 (sea m (nE m) (nJ m))) (sR u 4 f) := by
      obtain ⟨⟨y0, y1, y2, y3, y4⟩, yr, yu, yt, ys, yw, -⟩ := hW.1
      exact Mr_c hW.1 ⟨rfl, rfl⟩ ⟨rfl, rfl⟩ ⟨rfl, rfl⟩ y3 y4 yr (by rw [ua 1 (by decide), ma 1 (by decide)]; exact yu) ⟨ma 18 (by decide), ua 3 (by decide)⟩ (fun i hi => by rw [sR_at, sR_at]; exact hf i hi) (by rw [ua 5 (by decide), ma 6 (by decide)]; exact yw) ⟨ma 3 (by decide), ma 4 (by decide), ma 5 (by decide)⟩ ⟨ua 6 (by decide), ua 7 (by decide), ua 8 (by decide)⟩ ⟨ma 0 (by decide), ua 0 (by decide)⟩
    refine ⟨fun c1 => ?_, fun c1 => ?_⟩
    · have hne : ¬ ct (on m (nE m)) 24 = 0 := fun q => c1 (by rw [q]; rfl)
      have hp := h1 hne
      have hcm : clM m = sS (sS (kr (sR m 19 (sea m (nE m) (nJ m)))) 11 0) 2 ((sR m 19 (sea m (nE m) (nJ m))).1 2 + 1) := rfl
      generalize sR m 19 (sea m (nE m) (nJ m)) = m1 at *
      generalize sR u 4 f = u1 at *
      rw [hcm] at hp
      obtain ⟨R1, R2, R3⟩ := rj_ml hI1 (Nat.le_refl (nE m1))
      unfold pX5_close_b107
      have fin : ∀ v : Sg, (∀ l, v.2 l = u1.2 l) → (∀ l, l ≠ 5 → l ≠ 6 → v.1 l = u1.1 l) → (((kr m1).1 3 = -1 ∧ v.1 5 = -10000 ∧ v.1 6 = -10000) ∨ (0 ≤ ((kr m1).1 3).toInt ∧ v.1 5 = (kr m1).1 3 ∧ v.1 6 = (kr m1).1 4)) → Mr (sS (sS (kr m1) 11 0) 2 (m1.1 2 + 1)) (sS (sS v 2 0) 3 (v.1 3 + 1)) := fun v hv2 hv1 hvr => by
        have k2 : ∀ l, (kr m1).2 l = m1.2 l := fun l => by unfold kr; split <;> rfl
        have k1 : ∀ l, l ≠ 3 → l ≠ 4 → (kr m1).1 l = m1.1 l := fun l h3 h4 => by
          unfold kr
          split
          · rfl
          · rw [sS_ne _ _ _ _ h4, sS_ne _ _ _ _ h3]
        have cs : ∀ l, l ≠ 11 → l ≠ 2 → (sS (sS (kr m1) 11 0) 2 (m1.1 2 + 1)).1 l = (kr m1).1 l := fun l h1 h2 => by rw [sS_ne _ _ _ _ h2, sS_ne _ _ _ _ h1]
        have vs : ∀ l, l ≠ 2 → l ≠ 3 → (sS (sS v 2 0) 3 (v.1 3 + 1)).1 l = v.1 l := fun l h1 h2 => by rw [sS_ne _ _ _ _ h2, sS_ne _ _ _ _ h1]
        have c11 : (sS (sS (kr m1) 11 0) 2 (m1.1 2 + 1)).1 11 = 0 := by rw [sS_ne _ _ _ _ (by decide), sS_at]
        have e2 := nE0 c11
        have hT : nT (sS (sS (kr m1) 11 0) 2 (m1.1 2 + 1)) = nT m1 := by unfold nT; rw [cs 0 (by decide) (by decide), k1 0 (by decide) (by decide)]
        obtain ⟨⟨y0, y1, y2, y3, y4⟩, yr, yu, yt, ys, yw, ye, yp⟩ := hM1
        refine ⟨⟨?_, ?_, ?_, ?_, ?_⟩, ?_, ?_, ?_, ?_, ?_, fun k hk => by omega, ?_⟩
        · rw [vs 0 (by decide) (by decide), hv1 0 (by decide) (by decide), cs 0 (by decide) (by decide), k1 0 (by decide) (by decide)]; exact y0
        · rw [vs 1 (by decide) (by decide), hv1 1 (by decide) (by decide), cs 1 (by decide) (by decide), k1 1 (by decide) (by decide)]; exact y1
        · rw [c11, sS_ne _ _ _ _ (by decide), sS_at]
        · rw [sS_at, sS_at, hv1 3 (by decide) (by decide), y3]
        · rw [vs 4 (by decide) (by decide), hv1 4 (by decide) (by decide), cs 5 (by decide) (by decide), k1 5 (by decide) (by decide)]; exact y4
        · rw [vs 5 (by decide) (by decide), vs 6 (by decide) (by decide), cs 3 (by decide) (by decide), cs 4 (by decide) (by decide)]; exact hvr
        · intro i hi; show v.2 1 i = (kr m1).2 1 i; rw [hv2, k2]; exact yu i hi
        · intro i hi; show v.2 3 i = (kr m1).2 18 i; rw [hv2, k2]; exact yt i hi
        · intro i hi; show v.2 4 i = (kr m1).2 19 i; rw [hv2, k2]; exact ys i hi
        · intro i hi; show v.2 5 i = (kr m1).2 6 i; rw [hv2, k2]; exact yw i hi
        · intro i hi
          rw [hT] at hi
          show v.2 0 i &&& 255 = (kr m1).2 0 i
          rw [hv2, k2]; exact yp i hi
      refine g_longest hI1 hM1 (g_isGreater hI1 hM1 _ (ml_bd hI1) (fun k hk hlt => ⟨fun c => absurd c (by decide), fun _ => ?_⟩) (fun hno => ⟨fun _ => ?_, fun c => absurd rfl c⟩))
      · obtain ⟨r1, r2⟩ := R1 k hk hlt
        have hkE := (ml_bd hI1 k hk).1
        have hE1 := hI1.2.2.1.2
        obtain ⟨e4, hq⟩ := qk_ok hI1 hkE
        have ek := q_nI (n := k) (by omega)
        have g7 : gA u1 7 (nI k) = nI (jm (qk m1 k)) := by unfold gA; rw [q_cl ek]; exact (hM1.2.2.2.2.2.2.1 k hkE).2.1 _ hq e4
        obtain ⟨g1, g2⟩ := hM1.val0 hI1 hkE
        rw [hk, show encN (some k) = nI k from rfl, g7, g2, jm32 hq]
        refine ⟨g1, q_in ek (by omega), fun v10 hv10 => hp _ ?_⟩
        subst hv10
        refine fin _ (fun _ => rfl) (fun l h5 h6 => by rw [sS_ne _ _ _ _ h6, sS_ne _ _ _ _ h5]) (Or.inr ?_)
        have hkr : kr m1 = sS (sS m1 3 (rln m1 (qk m1 k) (nE m1))) 4 (nI (qk m1 k % 24)) := by unfold kr; rw [r1]
        rw [hkr, sS_at, sS_ne _ _ _ _ (by decide), sS_at, sS_ne _ _ _ _ (by decide), sS_at, sS_at, rln_of r2]
        exact ⟨(ml_bd hI1 k hk).2, rfl, rfl⟩
      · have hr : rj m1 (nE m1) 48 = none := by
          rcases hno with h | ⟨k, hk, hlt⟩
          · exact R3 h
          · exact R2 k hk hlt
        have hkr : kr m1 = m1 := by unfold kr; rw [hr]
        refine hp _ (fin _ (fun _ => rfl) (fun _ _ _ => rfl) ?_)
        rw [hkr]
        exact hM1.2.1
    · have hz : ct (on m (nE m)) 24 = 0 := by
        rw [show (0 : Int32) = nI 0 from rfl, nI_eq (by omega) (by omega)] at c1
        exact c1
      refine h0 hz _ ?_
      have hs : sea m (nE m) (nJ m) = m.2 19 := sea_off (fun i hi => ct_0 hz i (by omega))
      rw [hs, sR_self] at hM1
      exact hM1
  · simp only [q_le, e, eJ] at c
    have hjJ : j < nJ m := by omega
    have hWf : Wk m (nE m) (sR u 4 f) → True := fun _ => trivial
    have g9 : gA (sR u 4 f) 9 (nI j) = b2 (on m (nE m) j) := by unfold gA; rw [q_cl e, sR_ne _ _ _ _ (by decide), hW.2.1 j hjJ]
    have hm : 24 - (nI j + 1).toNatClampNeg < 24 - (nI j).toNatClampNeg := by simp only [nI_1, q_cl e, q_cl e1]; omega
    rw [g9]
    unfold pX5_close_b55
    refine ⟨q_in e (by omega), fun c1 => ⟨q_in e (by omega), ?_⟩, fun c1 => ?_⟩
    · have hon := b2_ne c1
      -- place on the row that season is left out of
      refine g_placeS hI hW f j hjJ hon ?_
      have hbl := be_lt (m := m) (n := nE m) (j := j) (by omega) hon
      have hp1 : pl m (nE m) j - 1 = nI (ct (be m (nE m) j) 24) := by
        unfold pl
        rw [if_pos hon, show (1 : Int32) = nI 1 from rfl, pk_sub (by omega), Nat.add_sub_cancel_left]
      have ep := q_nI (n := ct (be m (nE m) j) 24) (by omega)
      have g4 : gA (sR u 4 f) 4 (nI j) = sea m (nE m) j j := by unfold gA; rw [q_cl e, sR_at]; exact hf j (by omega)
      rw [hp1, q_cl ep, g4]
      refine ⟨q_in ep hbl, fun v19 hv19 => ⟨q_in e (by omega), ih _ _ ⟨j + 1, by omega, nI_1 j, ?_, upd f j v19, ?_, fun i hi => ?_⟩ hm⟩⟩
      · rw [nI_1]; simp only [ct, hon, if_true]
      · unfold sA; rw [q_cl e, sR_at, sR_sR]
      · unfold sea
        by_cases hij : i = j
        · subst hij
          rw [upd_at, upd_at, hv19]
          unfold sp
          rw [if_pos hon]
          rfl
        · rw [upd_ne _ _ _ _ hij, upd_ne _ _ _ _ hij]; exact hf i hi
    · have hoff := b2_eq c1
      refine ih _ _ ⟨j + 1, by omega, nI_1 j, ?_, f, rfl, fun i hi => ?_⟩ hm
      · simp [ct, hoff]
      · unfold sea
        by_cases hij : i = j
        · subst hij
          rw [upd_at]
          unfold sp
          rw [hoff, hf i hi]
          simp
        · rw [upd_ne _ _ _ _ hij]; exact hf i hi
end MRE
