theorem ct_cong {p q : Nat → Bool} : ∀ {N : Nat}, (∀ v, v < N → p v = q v) → ct p N = ct q N
  | 0, _ => rfl
  | N + 1, h => by
    unfold ct
    rw [ct_cong (fun v hv => h v (by omega)), h N (by omega)]
theorem ct_or {p q : Nat → Bool} : ∀ {N : Nat}, (∀ v, v < N → ¬ (p v = true ∧ q v = true)) → ct (fun v => p v || q v) N = ct p N + ct q N
  | 0, _ => rfl
  | N + 1, h => by
    have h1 := ct_or (N := N) (fun v hv => h v (by omega))
    have h2 := h N (by omega)
    simp only [ct]
    rw [h1]
    rcases Bool.eq_false_or_eq_true (p N) with hp | hp <;> rcases Bool.eq_false_or_eq_true (q N) with hq | hq <;> simp [hp, hq] at h2 ⊢ <;> omega
theorem ct_sub {p q : Nat → Bool} : ∀ {N : Nat}, (∀ v, v < N → p v = true → q v = true) → ct p N ≤ ct q N
  | 0, _ => Nat.le_refl 0
  | N + 1, h => by
    have h1 := ct_sub (N := N) (fun v hv => h v (by omega))
    have h2 := h N (by omega)
    simp only [ct]
    rcases Bool.eq_false_or_eq_true (p N) with hp | hp <;> rcases Bool.eq_false_or_eq_true (q N) with hq | hq <;> simp [hp, hq] at h2 ⊢ <;> omega
theorem ct_lt {p q : Nat → Bool} : ∀ {N : Nat}, (∀ v, v < N → p v = true → q v = true) → (i : Nat) → i < N → p i = false → q i = true → ct p N < ct q N
  | 0, _, i, h, _, _ => absurd h (Nat.not_lt_zero i)
  | N + 1, h, i, hi, h3, h4 => by
    have hs := ct_sub (N := N) (fun v hv => h v (by omega))
    have h2 := h N (by omega)
    simp only [ct]
    by_cases e : i = N
    · subst e
      rw [h3, h4]
      simp
      omega
    · have := ct_lt (N := N) (fun v hv => h v (by omega)) i (by omega) h3 h4
      rcases Bool.eq_false_or_eq_true (p N) with hp | hp <;> rcases Bool.eq_false_or_eq_true (q N) with hq | hq <;> simp [hp, hq] at h2 ⊢ <;> omega
theorem ct_zero {p : Nat → Bool} : ∀ {N : Nat}, (∀ v, v < N → p v = false) → ct p N = 0
  | 0, _ => rfl
  | N + 1, h => by
    unfold ct
    rw [ct_zero (fun v hv => h v (by omega)), h N (by omega)]
    rfl
theorem ct_ext {p : Nat → Bool} {a b : Nat} (hab : a ≤ b) (h : ∀ v, a ≤ v → v < b → p v = false) : ct p b = ct p a := by
  induction b with
  | zero => rw [show a = 0 by omega]
  | succ b ih =>
    by_cases e : a = b + 1
    · rw [e]
    · have h1 : ct p (b + 1) = ct p b := by simp [ct, h b (by omega) (by omega)]
      rw [h1]
      exact ih (by omega) (fun v h1 h2 => h v h1 (by omega))
theorem ct_add {q : Nat → Bool} {i : Nat} : ∀ {N : Nat}, i < N → q i = false → ct (fun v => q v || decide (v = i)) N = ct q N + 1
  | 0, h, _ => absurd h (Nat.not_lt_zero i)
  | N + 1, h, hq => by
    simp only [ct]
    by_cases e : i = N
    · subst e
      have e1 : ct (fun v => q v || decide (v = i)) i = ct q i := ct_cong (fun v hv => by simp [show ¬ v = i by omega])
      rw [e1]
      simp [hq]
    · rw [ct_add (N := N) (by omega) hq]
      have : ¬ N = i := fun z => e z.symm
      simp only [this, decide_false, Bool.or_false]
      omega
theorem ct_all {q : Nat → Bool} : ∀ {N : Nat}, ct q N = N → ∀ v, v < N → q v = true
  | 0, _, v, h => absurd h (Nat.not_lt_zero v)
  | N + 1, h, v, hv => by
    have hl := ct_le q N
    simp only [ct] at h
    cases hq : q N with
    | false => rw [hq] at h; simp at h; omega
    | true =>
      by_cases e : v = N
      · rw [e]; exact hq
      · rw [hq] at h
        exact ct_all (N := N) (by simp at h; exact h) v (by omega)
/-- the places that the first k of those meant take -/
def im (p : Nat → Bool) (f : Nat → Nat) : Nat → Nat → Bool
  | 0, _ => false
  | k + 1, v => im p f k v || (p k && decide (v = f k))
theorem im_is {p : Nat → Bool} {f : Nat → Nat} : ∀ {k v : Nat}, im p f k v = true → ∃ j, j < k ∧ p j = true ∧ f j = v
  | 0, v, h => by cases h
  | k + 1, v, h => by
    unfold im at h
    rw [Bool.or_eq_true] at h
    rcases h with h | h
    · obtain ⟨j, h1, h2⟩ := im_is h
      exact ⟨j, by omega, h2⟩
    · simp at h
      exact ⟨k, by omega, h.1, h.2.symm⟩
theorem im_ct {p : Nat → Bool} {f : Nat → Nat} {N : Nat} : ∀ {k : Nat}, (∀ j, j < k → p j = true → f j < N) → (∀ i j, i < k → j < k → p i = true → p j = true → f i = f j → i = j) → ct (im p f k) N = ct p k
  | 0, _, _ => ct_zero (fun _ _ => rfl)
  | k + 1, h1, h2 => by
    have ih := im_ct (k := k) (fun j hj => h1 j (by omega)) (fun i j hi hj => h2 i j (by omega) (by omega))
    cases hp : p k with
    | false =>
      have : im p f (k + 1) = im p f k := by
        funext v
        simp [im, hp]
      rw [this, ih]
      simp [ct, hp]
    | true =>
      have : im p f (k + 1) = fun v => im p f k v || decide (v = f k) := by
        funext v
        simp [im, hp]
      rw [this, ct_add (h1 k (by omega) hp), ih]
      · simp [ct, hp]
      · cases hi : im p f k (f k) with
        | false => rfl
        | true =>
          obtain ⟨j, g1, g2, g3⟩ := im_is hi
          have := h2 j k (by omega) (by omega) g2 hp g3
          omega
theorem onto {p : Nat → Bool} {f : Nat → Nat} {k : Nat} (h1 : ∀ j, j < k → p j = true → f j < ct p k) (h2 : ∀ i j, i < k → j < k → p i = true → p j = true → f i = f j → i = j) {v : Nat} (hv : v < ct p k) : ∃ j, j < k ∧ p j = true ∧ f j = v :=
  im_is (ct_all (im_ct h1 h2) v hv)
theorem srch_none {p : Nat → Bool} : ∀ {f j : Nat}, (∀ k, j ≤ k → k < j + f → p k = false) → srch p f j = -10000
  | 0, _, _ => rfl
  | f + 1, j, h => by
    unfold srch
    rw [h j (Nat.le_refl _) (by omega)]
    exact srch_none (fun k h1 h2 => h k (by omega) (by omega))
theorem srch_one {p : Nat → Bool} {i : Nat} : ∀ {f j : Nat}, j ≤ i → i < j + f → p i = true → (∀ k, j ≤ k → k < i → p k = false) → srch p f j = nI i
  | 0, j, h1, h2, _, _ => by omega
  | f + 1, j, h1, h2, h3, h4 => by
    unfold srch
    by_cases e : i = j
    · subst e; rw [h3]; rfl
    · rw [h4 j (Nat.le_refl _) (by omega)]
      exact srch_one (by omega) (by omega) h3 (fun k h1 h2 => h4 k (by omega) h2)
theorem srch_cut {p : Nat → Bool} : ∀ {f g j : Nat}, g ≤ f → (∀ k, j + g ≤ k → p k = false) → srch p f j = srch p g j
  | f, 0, j, _, h => srch_none (fun k h1 _ => h k (by omega))
  | f + 1, g + 1, j, hg, h => by
    unfold srch
    rw [srch_cut (f := f) (g := g) (j := j + 1) (by omega) (fun k hk => h k (by omega))]
theorem srch_cong {p q : Nat → Bool} : ∀ {f j : Nat}, (∀ k, j ≤ k → k < j + f → p k = q k) → srch p f j = srch q f j
  | 0, _, _ => rfl
  | f + 1, j, h => by
    unfold srch
    rw [h j (Nat.le_refl _) (by omega), srch_cong (fun k h1 h2 => h k (by omega) (by omega))]
section ORD
variable {m : Sg} {n : Nat}
/-- o stands before j on the list -/
def bf (m : Sg) (n j : Nat) : Nat → Bool := fun o => be m n j o || al m n j o
theorem bf_iff {o j : Nat} : bf m n j o = true ↔ on m n o = true ∧ ((th m n o = true ∧ th m n j = false) ∨ (th m n o = th m n j ∧ ((tot m n j).toInt < (tot m n o).toInt ∨ ((tot m n o).toInt = (tot m n j).toInt ∧ o < j)))) := by
  unfold bf be al bt
  cases on m n o <;> cases th m n o <;> cases th m n j <;> simp [q_lt, q_eq] <;> omega
theorem be_al (j : Nat) : ∀ v, v < 24 → ¬ (be m n j v = true ∧ al m n j v = true) := by
  intro v _ ⟨h1, h2⟩
  unfold be bt at h1
  unfold al at h2
  simp at h1 h2
  rw [if_pos h2.2.1.2] at h1
  simp [q_lt, h2.2.2] at h1
theorem pos_ct (j : Nat) : pos m n j = ct (bf m n j) 24 := (ct_or (be_al j)).symm
theorem bf_tr {a b c : Nat} (h1 : bf m n b a = true) (h2 : bf m n c b = true) : bf m n c a = true := by
  rw [bf_iff] at *
  obtain ⟨h3, h4⟩ := h1
  obtain ⟨h5, h6⟩ := h2
  refine ⟨h3, ?_⟩
  cases ha : th m n a <;> cases hb : th m n b <;> cases hc : th m n c <;> simp [ha, hb, hc] at h4 h6 ⊢ <;> omega
theorem bf_ir (a : Nat) : bf m n a a = false := by
  cases h : bf m n a a with
  | false => rfl
  | true =>
    rw [bf_iff] at h
    obtain ⟨-, h | h⟩ := h
    · rw [h.1] at h; cases h.2
    · omega
theorem bf_to {a b : Nat} (ha : on m n a = true) (hb : on m n b = true) (hab : a ≠ b) : bf m n b a = true ∨ bf m n a b = true := by
  rw [bf_iff, bf_iff]
  cases h1 : th m n a <;> cases h2 : th m n b <;> simp [ha, hb] <;> omega
theorem pos_lt2 {a b : Nat} (ha : a < 24) (h : bf m n b a = true) : pos m n a < pos m n b := by
  rw [pos_ct, pos_ct]
  exact ct_lt (fun v _ hv => bf_tr hv h) a ha (bf_ir a) h
theorem pos_lt {j : Nat} (hj : j < 24) (h : on m n j = true) : pos m n j < ct (on m n) 24 := by
  rw [pos_ct]
  exact ct_lt (fun v _ hv => (bf_iff.mp hv).1) j hj (bf_ir j) h
theorem pos_inj {a b : Nat} (ha : a < 24) (hb : b < 24) (h1 : on m n a = true) (h2 : on m n b = true) (h : pos m n a = pos m n b) : a = b := by
  apply Classical.byContradiction
  intro hab
  rcases bf_to h1 h2 hab with q | q
  · have := pos_lt2 ha q; omega
  · have := pos_lt2 hb q; omega
theorem pos_onto {i : Nat} (hi : i < ct (on m n) 24) : ∃ j, j < 24 ∧ on m n j = true ∧ pos m n j = i :=
  onto (fun j hj h => pos_lt hj h) (fun a b ha hb h1 h2 h => pos_inj ha hb h1 h2 h) hi
theorem od_at {f : Nat → Int32} : ∀ {k j : Nat}, k ≤ 24 → j < k → on m n j = true → od m n f k (pos m n j) = nI j
  | 0, j, _, hj, _ => absurd hj (Nat.not_lt_zero j)
  | k + 1, j, hk, hj, h => by
    unfold od
    by_cases e : j = k
    · subst e
      have h1 := pos_lt (m := m) (n := n) (j := j) (by omega) h
      have h2 := ct_le (on m n) 24
      rw [if_pos ⟨h, by omega⟩, upd_at]
    · have ih := od_at (f := f) (k := k) (by omega) (show j < k by omega) h
      split
      · rename_i hc
        rw [upd_ne _ _ _ _ (fun q => e (pos_inj (by omega) (by omega) h hc.1 q))]
        exact ih
      · exact ih
def pst (m : Sg) (n : Nat) (i : Int32) : Nat → Bool := fun j => on m n j && decide (nI (pos m n j) = i)
theorem od_srch {f : Nat → Int32} {i : Nat} (hi : i < ct (on m n) 24) : od m n f 24 i = srch (pst m n (nI i)) 24 0 := by
  obtain ⟨j, hj, ho, hp⟩ := pos_onto hi
  have hc := ct_le (on m n) 24
  rw [← hp, od_at (Nat.le_refl _) hj ho]
  refine (srch_one (Nat.zero_le _) (by omega) (by simp [pst, ho]) (fun k _ hk => ?_)).symm
  cases h : pst m n (nI (pos m n j)) k with
  | false => rfl
  | true =>
    simp [pst] at h
    have h1 := pos_lt (m := m) (n := n) (j := k) (by omega) h.1
    have := (nI_eq (by omega) (by omega)).mp h.2
    have := pos_inj (by omega) hj h.1 ho this
    omega
theorem srch_out {i : Int32} (hi : ¬ (0 ≤ i.toInt ∧ i.toInt < (ct (on m n) 24 : Int))) : srch (pst m n i) 24 0 = -10000 := by
  refine srch_none (fun k _ hk => ?_)
  cases h : pst m n i k with
  | false => rfl
  | true =>
    simp [pst] at h
    have h1 := pos_lt (m := m) (n := n) (j := k) (by omega) h.1
    have h2 := ct_le (on m n) 24
    exfalso
    apply hi
    rw [← h.2, q_nI (by omega)]
    omega
theorem c_list2 {z : Sg} {post : Int32 → Sg → Prop} (hI : iv m) (hC : Cr m z) (e i : Int32) (h0 : ¬ isK m e → post (-10000) z)
    (h1 : isK m e → ∀ z', Cr m z' → post (srch (pst m e.toNatClampNeg i) 24 0) z') : pX4_list e i z post := by
  refine c_list hI hC e i h0 (fun he hi z' hz => ?_) (fun he hi f z' hz => ?_)
  · have := h1 he z' hz
    rw [srch_out hi] at this
    exact this
  · have := h1 he z' hz
    obtain ⟨k, rfl, hk⟩ := q_nn hi.1
    have hi2 := hi.2
    rw [hk] at hi2
    rw [q_cl hk, od_srch (by omega)]
    exact this
end ORD
