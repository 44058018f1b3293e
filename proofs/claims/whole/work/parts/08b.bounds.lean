theorem am_div {x y : Int32} {A : Nat} (hx : am x A) (hy : 0 < y.toInt) : am (x / y) A := by
  have h1 : (x / y).toInt = x.toInt.tdiv y.toInt := Int32.toInt_div_of_ne_right x y (fun e => by subst e; exact absurd hy (by decide))
  have h2 : (x.toInt.tdiv y.toInt).natAbs = x.toInt.natAbs / y.toInt.natAbs := Int.natAbs_tdiv _ _
  have h3 := Nat.div_le_self x.toInt.natAbs y.toInt.natAbs
  unfold am at *
  rw [h1]
  omega
theorem am_neg {x : Int32} {A : Nat} (hx : am x A) (h : A < 2147483648) : am (-x) A := by
  rw [← Int32.zero_sub]
  have := am_sub (x := 0) (A := 0) (by unfold am; decide) hx (by omega)
  rw [Nat.zero_add] at this
  exact this
theorem am_0 (A : Nat) : am 0 A := by
  have : (0 : Int32).toInt = 0 := rfl
  unfold am
  omega
theorem am_iabs {x : Int32} {A : Nat} (hx : am x A) (h : A < 2147483648) : am (iabs x) A := by
  by_cases c : 0 ≤ x
  · rw [iabs_p c]; exact hx
  · rw [iabs_n c]; exact am_neg hx h
theorem am_2 : am (2 : Int32) 2 := by unfold am; decide
theorem am_rnd {a b : Int32} {A : Nat} (ha : am a A) (hb : 0 ≤ b.toInt ∧ b.toInt ≤ 100) (h : A < 500000000) : am (rnd a b) (2 * A + 100) := by
  unfold rnd
  by_cases c : 0 < b
  · have hb0 : 0 < b.toInt := by simpa [q_lt] using c
    have h1 := am_add (am_mul am_2 (am_iabs ha (by omega)) (by omega)) (show am b 100 by unfold am; omega) (by omega)
    have h2 : (2 * b).toInt = 2 * b.toInt := by
      rw [Int32.toInt_mul]
      exact q_bd (M := 200) (by omega) (by simp; omega) (by simp; omega)
    have h3 := am_div h1 (show 0 < (2 * b).toInt by omega)
    rw [if_pos c]
    split
    · exact h3
    · exact am_neg h3 (by omega)
  · rw [if_neg c]
    unfold am
    have : (0 : Int32).toInt = 0 := rfl
    omega
theorem am_msum {w f : Nat → Int32} (hw : ∀ i, i < 5 → 0 ≤ (w i).toInt ∧ (w i).toInt ≤ 9) (hf : ∀ i, i < 5 → f i = -10000 ∨ (-999 ≤ (f i).toInt ∧ (f i).toInt ≤ 999)) : ∀ i, i ≤ 5 → am (msum w f i) (8991 * i)
  | 0, _ => am_0 _
  | i + 1, hi => by
    have ih := am_msum hw hf i (by omega)
    unfold msum
    split
    · exact am_mono ih (by omega)
    · rename_i hc
      have h1 := (hf i (by omega)).resolve_left hc
      have h2 := hw i (by omega)
      exact am_mono (am_add ih (am_mul (A := 9) (B := 999) (by unfold am; omega) (by unfold am; omega) (by omega)) (by omega)) (by omega)
theorem am_fsum {f : Nat → Int32} (hf : ∀ i, i < 5 → 0 ≤ (f i).toInt ∧ (f i).toInt ≤ 40) : ∀ i, i ≤ 5 → am (fsum f i) (40 * i)
  | 0, _ => am_0 _
  | i + 1, hi => by
    have ih := am_fsum hf i (by omega)
    have h2 := hf i (by omega)
    exact am_mono (am_add ih (show am (f i) 40 by unfold am; omega) (by omega)) (by omega)
theorem am_fmn {f : Nat → Int32} (hf : ∀ i, i < 5 → 0 ≤ (f i).toInt ∧ (f i).toInt ≤ 40) : ∀ i, i ≤ 5 → am (fmn f i) 40
  | 0, _ => show am (40 : Int32) 40 by unfold am; decide
  | i + 1, hi => by
    have ih := am_fmn hf i (by omega)
    have h2 := hf i (by omega)
    unfold fmn imin
    split <;> first | exact ih | (unfold am; omega)
theorem am_fmx {f : Nat → Int32} (hf : ∀ i, i < 5 → 0 ≤ (f i).toInt ∧ (f i).toInt ≤ 40) : ∀ i, i ≤ 5 → am (fmx f i) 40
  | 0, _ => am_0 _
  | i + 1, hi => by
    have ih := am_fmx hf i (by omega)
    have h2 := hf i (by omega)
    unfold fmx imax
    split
    · unfold am; omega
    · exact ih
section BND
variable {m : Sg} {n : Nat}
theorem iv_e (hI : iv m) (hn : n ≤ nE m) {s q k : Nat} (hs : s < 4) (h : lst m s q n = some k) : eOk m k s := by
  obtain ⟨t, p, g1, g2, g3, g4, g5, g6⟩ := hI.2.2.2.2.2.2.1 k (by have := lst_lt h; omega)
  have h2 := (lst_is h).1
  rw [g4] at h2
  rw [(nI_eq (by omega) (by omega)).mp h2] at g6
  exact g6
theorem am_rule (hI : iv m) (i : Nat) (hi : i < 7) (M : Nat) (h : tb_LEAST i = 0 ∨ 0 ≤ (tb_LEAST i).toInt) (h2 : (tb_GREATEST i).toInt ≤ M) : am (m.2 1 i) M := by
  have h3 := hI.2.2.2.2.1 i hi
  have h4 : 0 ≤ (tb_LEAST i).toInt := h.elim (fun e => by rw [e]; exact Int.le_refl _) id
  unfold am
  omega
theorem am_mea (hI : iv m) (hn : n ≤ nE m) (q : Nat) : am (mea m (lst m 1 q n)) 90010 := by
  cases hl : lst m 1 q n with
  | none => exact am_0 _
  | some k =>
    have h1 := (iv_e hI hn (by omega) hl).2.1 rfl
    have hw := hI.2.2.2.2.2.1
    obtain ⟨t, h2, h3⟩ := mwt_bd (f := vl m k) hw 5 (by omega)
    have e := q_nI (n := t) (by omega)
    unfold mea
    exact am_mono (am_rnd (am_msum hw h1 5 (by omega)) (by rw [h2, e]; omega) (by omega)) (by omega)
theorem am_raw (hI : iv m) (hn : n ≤ nE m) {q k : Nat} (hl : lst m 0 q n = some k) : am (raw m q n k) 400000000 := by
  have ho := (iv_e hI hn (by omega) hl).1 rfl
  have hb := hI.2.2.2.1
  have r0 := am_rule hI 0 (by omega) 600 (Or.inr (by decide)) (by decide)
  have r1 := am_rule hI 1 (by omega) 99 (Or.inr (by decide)) (by decide)
  have r2 := am_rule hI 2 (by omega) 999 (Or.inr (by decide)) (by decide)
  have r3 := am_rule hI 3 (by omega) 999 (Or.inr (by decide)) (by decide)
  have v0 : am (vl m k 0) 600 := by unfold am; omega
  have v1 : am (vl m k 1) 50 := by unfold am; omega
  have b5 : am (m.1 5) 50 := by unfold am; omega
  have hL : am (len m k) 120000 := by
    unfold len
    exact am_mono (am_add (show am (1200 : Int32) 1200 by unfold am; decide) (am_mul r1 (am_sub v0 r0 (by omega)) (by omega)) (by omega)) (by omega)
  have hG : am (gat m k) 199800 := by
    unfold gat
    split
    · exact am_0 _
    · exact am_mono (am_mul (am_mul am_2 r3 (by omega)) (am_sub b5 v1 (by omega)) (by omega)) (by omega)
  have hS : am (sty m (lst m 2 q n)) 2800 := by
    cases h2 : lst m 2 q n with
    | none => exact am_0 _
    | some l =>
      have h3 := (iv_e hI hn (by omega) h2).2.2 rfl
      unfold sty
      exact am_mono (am_mul (show am (10 : Int32) 10 by unfold am; decide) (am_sub (am_sub (am_fsum h3 5 (by omega)) (am_fmn h3 5 (by omega)) (by omega)) (am_fmx h3 5 (by omega)) (by omega)) (by omega)) (by omega)
  have hW : am (win m q n) 359680160 := by
    unfold win
    exact am_mono (am_mul (show am (-2 : Int32) 2 by unfold am; decide) (am_rnd (am_mul (am_mea hI hn q) r2 (by omega)) (by decide) (by omega)) (by omega)) (by omega)
  unfold raw
  exact am_mono (am_add (am_add (am_add hL hS (by omega)) hG (by omega)) hW (by omega)) (by omega)
theorem pts_bd (hI : iv m) (hn : n ≤ nE m) (q : Nat) : 0 ≤ (pts m q n).toInt ∧ (pts m q n).toInt ≤ 400000000 := by
  unfold pts
  cases hl : lst m 0 q n with
  | none => show 0 ≤ (0 : Int32).toInt ∧ (0 : Int32).toInt ≤ 400000000; exact ⟨by decide, by decide⟩
  | some k =>
    have h1 := am_raw hI hn hl
    have h0 : (0 : Int32).toInt = 0 := rfl
    show 0 ≤ (imax 0 (raw m q n k)).toInt ∧ (imax 0 (raw m q n k)).toInt ≤ 400000000
    unfold imax
    unfold am at h1
    split
    · rename_i c
      simp only [q_lt] at c
      omega
    · omega
/-- who is through has no smaller total -/
theorem th_tot (hI : iv m) (hn : n ≤ nE m) {a b : Nat} (ha : a < 24) (hb : b < 24) (oa : on m n a = true) (ob : on m n b = true) (ta : th m n a = true) (tb : th m n b = false) : (tot m n b).toInt ≤ (tot m n a).toInt := by
  have pa := pts_bd hI hn a
  have pb := pts_bd hI hn b
  have pc := pts_bd hI hn (24 + a)
  have h0 : (0 : Int32).toInt = 0 := rfl
  have eb : (tot m n b).toInt = (pts m b n).toInt := by
    unfold tot
    rw [tb, fp_on ob]
    simp
  have ea : (pts m a n).toInt ≤ (tot m n a).toInt := by
    unfold tot
    rw [fp_on oa]
    split
    · rw [Int32.toInt_add, q_bd (M := 800000000) (by omega) (by omega) (by omega)]
      omega
    · simp
  rw [eb]
  refine Int.le_trans ?_ ea
  apply Classical.byContradiction
  intro hc
  have sub : ct (ah m n b) 24 ≤ ct (ah m n a) 24 := by
    refine ct_sub (fun v _ hv => ?_)
    unfold ah at *
    rw [fp_on oa]
    rw [fp_on ob] at hv
    simp only [Bool.or_eq_true, Bool.and_eq_true, decide_eq_true_eq, q_lt, q_eq (x := fp m n v)] at hv ⊢
    left
    omega
  have c1 := ct_le (ah m n a) 24
  unfold th at ta tb
  rw [oa] at ta
  rw [ob] at tb
  simp only [Bool.true_and, decide_eq_true_eq, decide_eq_false_iff_not, q_lt] at ta tb
  rw [q_nI (by omega)] at ta tb
  omega
end BND
