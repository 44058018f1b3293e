/-- the sum of f over those meant -/
def su (p : Nat → Bool) (f : Nat → Int32) : Nat → Int32
  | 0 => 0
  | i + 1 => if p i then su p f i + f i else su p f i
theorem su_cong {p q : Nat → Bool} {f : Nat → Int32} : ∀ {N : Nat}, (∀ v, v < N → p v = q v) → su p f N = su q f N
  | 0, _ => rfl
  | N + 1, h => by
    unfold su
    rw [su_cong (fun v hv => h v (by omega)), h N (by omega)]
theorem su_ext {p : Nat → Bool} {f : Nat → Int32} {a b : Nat} (hab : a ≤ b) (h : ∀ v, a ≤ v → v < b → p v = false) : su p f b = su p f a := by
  induction b with
  | zero => rw [show a = 0 by omega]
  | succ b ih =>
    by_cases e : a = b + 1
    · rw [e]
    · have h1 : su p f (b + 1) = su p f b := by simp [su, h b (by omega) (by omega)]
      rw [h1]
      exact ih (by omega) (fun v h1 h2 => h v h1 (by omega))
theorem su_zero {p : Nat → Bool} {f : Nat → Int32} : ∀ {N : Nat}, (∀ v, v < N → p v = false) → su p f N = 0
  | 0, _ => rfl
  | N + 1, h => by
    unfold su
    rw [su_zero (fun v hv => h v (by omega)), h N (by omega)]
    rfl
theorem su_add {q : Nat → Bool} {f : Nat → Int32} {i : Nat} : ∀ {N : Nat}, i < N → q i = false → su (fun v => q v || decide (v = i)) f N = su q f N + f i
  | 0, h, _ => absurd h (Nat.not_lt_zero i)
  | N + 1, h, hq => by
    simp only [su]
    by_cases e : i = N
    · subst e
      have e1 : su (fun v => q v || decide (v = i)) f i = su q f i := su_cong (fun v hv => by simp [show ¬ v = i by omega])
      rw [e1]
      simp [hq]
    · rw [su_add (N := N) (by omega) hq]
      have : ¬ N = i := fun z => e z.symm
      simp only [this, decide_false, Bool.or_false]
      split
      · grind
      · rfl
/-- a strict order of those of S by which f falls (b before a: R a b) -/
def Fal (S : Nat → Bool) (f : Nat → Int32) (R : Nat → Nat → Bool) : Prop :=
  (∀ a, R a a = false) ∧ (∀ a b c, S a = true → S b = true → S c = true → R a b = true → R b c = true → R a c = true) ∧
  (∀ a b, S a = true → S b = true → a ≠ b → R a b = true ∨ R b a = true) ∧ ∀ a b, S a = true → S b = true → R a b = true → (f a).toInt ≤ (f b).toInt
def rk (S : Nat → Bool) (R : Nat → Nat → Bool) (j : Nat) : Nat := ct (fun o => S o && R j o) 24
section RNK
variable {S : Nat → Bool} {f : Nat → Int32} {R Q : Nat → Nat → Bool}
theorem rk_lt2 (h : Fal S f R) {a b : Nat} (ha : a < 24) (sa : S a = true) (sb : S b = true) (hr : R b a = true) : rk S R a < rk S R b :=
  ct_lt (fun v _ hv => by simp only [Bool.and_eq_true] at hv ⊢; exact ⟨hv.1, h.2.1 b a v sb sa hv.1 hr hv.2⟩) a ha (by simp [h.1 a]) (by simp [sa, hr])
theorem rk_lt (h : Fal S f R) {a : Nat} (ha : a < 24) (sa : S a = true) : rk S R a < ct S 24 :=
  ct_lt (fun v _ hv => by simp only [Bool.and_eq_true] at hv; exact hv.1) a ha (by simp [h.1 a]) sa
theorem rk_inj (h : Fal S f R) {a b : Nat} (ha : a < 24) (hb : b < 24) (sa : S a = true) (sb : S b = true) (e : rk S R a = rk S R b) : a = b := by
  apply Classical.byContradiction
  intro hab
  rcases h.2.2.1 a b sa sb hab with q | q
  · have := rk_lt2 h hb sb sa q; omega
  · have := rk_lt2 h ha sa sb q; omega
theorem rk_onto (h : Fal S f R) {r : Nat} (hr : r < ct S 24) : ∃ j, j < 24 ∧ S j = true ∧ rk S R j = r :=
  onto (fun j hj s => rk_lt h hj s) (fun a b ha hb h1 h2 e => rk_inj h ha hb h1 h2 e) hr
theorem rk_le (h : Fal S f R) {a b : Nat} (hb : b < 24) (sa : S a = true) (sb : S b = true) (e : rk S R a ≤ rk S R b) : (f b).toInt ≤ (f a).toInt := by
  by_cases hab : a = b
  · rw [hab]; exact Int.le_refl _
  · rcases h.2.2.1 a b sa sb hab with q | q
    · have := rk_lt2 h hb sb sa q; omega
    · exact h.2.2.2 b a sb sa q
theorem rk_step (h : Fal S f R) {x r : Nat} (hx : x < 24) (sx : S x = true) (ex : rk S R x = r) : ∀ v, v < 24 → (S v && decide (rk S R v < r + 1)) = ((S v && decide (rk S R v < r)) || decide (v = x)) := by
  intro v hv
  by_cases e : v = x
  · subst e; simp [sx, ex]
  · cases sv : S v with
    | false => simp [e]
    | true =>
      have : ¬ rk S R v = r := fun q => e (rk_inj h hv hx sv sx (q.trans ex.symm))
      have e2 : decide (rk S R v < r + 1) = decide (rk S R v < r) := by
        rw [decide_eq_decide]; omega
      simp [e, e2]
theorem rk_many (h : Fal S f R) : ∀ {r : Nat}, r ≤ ct S 24 → ct (fun j => S j && decide (rk S R j < r)) 24 = r
  | 0, _ => ct_zero (fun v _ => by simp)
  | r + 1, hr => by
    obtain ⟨x, hx, sx, ex⟩ := rk_onto h (r := r) (by omega)
    have e1 := rk_many h (r := r) (by omega)
    rw [ct_cong (rk_step h hx sx ex), ct_add hx (by simp [ex]), e1]
theorem rk_val (h : Fal S f R) (hQ : Fal S f Q) {x y r : Nat} (hx : x < 24) (hy : y < 24) (sx : S x = true) (sy : S y = true) (ex : rk S R x = r) (ey : rk S Q y = r) : (f x).toInt ≤ (f y).toInt := by
  apply Classical.byContradiction
  intro hc
  have hr := rk_lt h hx sx
  have e1 := rk_many h (r := r + 1) (by omega)
  have : ct (fun j => S j && decide (rk S R j < r + 1)) 24 ≤ rk S Q y := by
    refine ct_sub (fun v hv hs => ?_)
    simp only [Bool.and_eq_true, decide_eq_true_eq] at hs ⊢
    refine ⟨hs.1, ?_⟩
    have h1 := rk_le h (a := v) (b := x) hx hs.1 sx (by omega)
    by_cases e : v = y
    · subst e; omega
    · rcases hQ.2.2.1 v y hs.1 sy e with q | q
      · have := hQ.2.2.2 v y hs.1 sy q; omega
      · exact q
  omega
theorem su_rk (h : Fal S f R) (hQ : Fal S f Q) : ∀ K : Nat, su (fun j => S j && decide (rk S R j < K)) f 24 = su (fun j => S j && decide (rk S Q j < K)) f 24
  | 0 => su_cong (fun v _ => by simp)
  | K + 1 => by
    have ih := su_rk h hQ K
    by_cases c : K < ct S 24
    · obtain ⟨x, hx, sx, ex⟩ := rk_onto h c
      obtain ⟨y, hy, sy, ey⟩ := rk_onto hQ c
      rw [su_cong (rk_step h hx sx ex), su_add hx (by simp [ex]), su_cong (rk_step hQ hy sy ey), su_add hy (by simp [ey]), ih]
      have h1 := rk_val h hQ hx hy sx sy ex ey
      have h2 := rk_val hQ h hy hx sy sx ey ex
      rw [show f x = f y from q_eq.mpr (by omega)]
    · have cR : ∀ v, v < 24 → (S v && decide (rk S R v < K + 1)) = (S v && decide (rk S R v < K)) := fun v hv => by
        cases sv : S v with
        | false => rfl
        | true =>
          have := rk_lt h hv sv
          rw [Bool.true_and, Bool.true_and, decide_eq_decide]; omega
      have cQ : ∀ v, v < 24 → (S v && decide (rk S Q v < K + 1)) = (S v && decide (rk S Q v < K)) := fun v hv => by
        cases sv : S v with
        | false => rfl
        | true =>
          have := rk_lt hQ hv sv
          rw [Bool.true_and, Bool.true_and, decide_eq_decide]; omega
      rw [su_cong cR, su_cong cQ, ih]
end RNK
/-- bounds of the measures -/
theorem q_bd {a : Int} {M : Nat} (hM : M < 2147483648) (h1 : -(M : Int) ≤ a) (h2 : a ≤ M) : a.bmod (2 ^ 32) = a := Int.bmod_eq_of_le (by omega) (by omega)
/-- its amount is M at most -/
def am (x : Int32) (M : Nat) : Prop := -(M : Int) ≤ x.toInt ∧ x.toInt ≤ M
theorem am_add {x y : Int32} {A B : Nat} (hx : am x A) (hy : am y B) (h : A + B < 2147483648) : am (x + y) (A + B) := by
  unfold am at *
  rw [Int32.toInt_add, q_bd h (by omega) (by omega)]
  omega
theorem am_sub {x y : Int32} {A B : Nat} (hx : am x A) (hy : am y B) (h : A + B < 2147483648) : am (x - y) (A + B) := by
  unfold am at *
  rw [Int32.toInt_sub, q_bd h (by omega) (by omega)]
  omega
theorem am_mulI {a b : Int} {A B : Nat} (ha : -(A : Int) ≤ a ∧ a ≤ A) (hb : -(B : Int) ≤ b ∧ b ≤ B) : -((A * B : Nat) : Int) ≤ a * b ∧ a * b ≤ ((A * B : Nat) : Int) := by
  have h1 : (a * b).natAbs ≤ A * B := by
    rw [Int.natAbs_mul]
    exact Nat.mul_le_mul (by omega) (by omega)
  omega
theorem am_mul {x y : Int32} {A B : Nat} (hx : am x A) (hy : am y B) (h : A * B < 2147483648) : am (x * y) (A * B) := by
  have h1 := am_mulI hx hy
  unfold am
  rw [Int32.toInt_mul, q_bd h h1.1 h1.2]
  exact h1
theorem am_mono {x : Int32} {A B : Nat} (hx : am x A) (h : A ≤ B) : am x B := by unfold am at *; omega
