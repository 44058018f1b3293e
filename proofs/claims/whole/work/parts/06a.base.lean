theorem q_lt {x y : Int32} : x < y ↔ x.toInt < y.toInt := Int32.lt_iff_toInt_lt
theorem q_le {x y : Int32} : x ≤ y ↔ x.toInt ≤ y.toInt := Int32.le_iff_toInt_le
theorem q_eq {x y : Int32} : x = y ↔ x.toInt = y.toInt := Int32.toInt_inj.symm
theorem q_nI {n : Nat} (h : n < 2147483648) : (nI n).toInt = (n : Int) := nI_toInt h
theorem q_m1 : (-1 : Int32).toInt = -1 := by decide
theorem q_mN : (-10000 : Int32).toInt = -10000 := by decide
theorem q_m999 : (-999 : Int32).toInt = -999 := by decide
theorem q_of {x : Int32} {n : Nat} (h : x.toInt = (n : Int)) : x = nI n := by
  have hr : n < 2147483648 := by have := Int32.toInt_lt x; omega
  rw [q_eq, q_nI hr, h]
theorem q_cl {x : Int32} {n : Nat} (h : x.toInt = (n : Int)) : x.toNatClampNeg = n := by
  show x.toInt.toNat = n
  omega
theorem q_in {x : Int32} {n N : Nat} (h : x.toInt = (n : Int)) (hn : n < N) : vp_in x N := vp_in_iff.mpr (by omega)
theorem q_nn {x : Int32} (h : 0 ≤ x.toInt) : ∃ n : Nat, x = nI n ∧ x.toInt = (n : Int) := ⟨x.toInt.toNat, q_of (by omega), by omega⟩
theorem sR_sR (z : Sg) (k : Nat) (f g : Nat → Int32) : sR (sR z k f) k g = sR z k g := by
  unfold sR
  congr 1
  funext j
  by_cases h : j = k <;> simp [va_up, h]
theorem sR_self (z : Sg) (k : Nat) : sR z k (z.2 k) = z := by
  unfold sR
  have : va_up z.2 k (z.2 k) = z.2 := by
    funext j
    by_cases h : j = k <;> simp [va_up, h]
  rw [this]
theorem sR_at (z : Sg) (k : Nat) (f : Nat → Int32) : (sR z k f).2 k = f := by simp [sR, va_up]
theorem sR_ne (z : Sg) (k j : Nat) (f : Nat → Int32) (h : j ≠ k) : (sR z k f).2 j = z.2 j := by simp [sR, va_up, h]
theorem sR_s (z : Sg) (k j : Nat) (f : Nat → Int32) : (sR z k f).1 j = z.1 j := rfl
theorem sS_at (z : Sg) (k : Nat) (v : Int32) : (sS z k v).1 k = v := by simp [sS, upd]
theorem sS_ne (z : Sg) (k j : Nat) (v : Int32) (h : j ≠ k) : (sS z k v).1 j = z.1 j := by simp [sS, upd, h]
theorem sS_a (z : Sg) (k j : Nat) (v : Int32) : (sS z k v).2 j = z.2 j := rfl
theorem sA_s (z : Sg) (k j : Nat) (i v : Int32) : (sA z k i v).1 j = z.1 j := rfl
theorem sA_at (z : Sg) (k : Nat) (i v : Int32) : (sA z k i v).2 k = upd (z.2 k) i.toNatClampNeg v := sR_at _ _ _
theorem sA_ne (z : Sg) (k j : Nat) (i v : Int32) (h : j ≠ k) : (sA z k i v).2 j = z.2 j := sR_ne _ _ _ _ h
theorem upd_at (f : Nat → Int32) (k : Nat) (x : Int32) : upd f k x k = x := by simp [upd]
theorem upd_ne (f : Nat → Int32) (k j : Nat) (x : Int32) (h : j ≠ k) : upd f k x j = f j := by simp [upd, h]
/-- the numbers that last from call to call -/
abbrev pS (k : Nat) : Prop := k ≤ 5 ∨ k = 11
abbrev pA (k : Nat) : Prop := k = 0 ∨ k = 1 ∨ (3 ≤ k ∧ k ≤ 6) ∨ k = 18 ∨ k = 19
/-- the class's lasting state is m's -/
def Cr (m z : Sg) : Prop := (∀ k, pS k → z.1 k = m.1 k) ∧ ∀ k, pA k → z.2 k = m.2 k
theorem Cr.rf (m : Sg) : Cr m m := ⟨fun _ _ => rfl, fun _ _ => rfl⟩
theorem Cr.s {m z : Sg} (h : Cr m z) (k : Nat) (hk : pS k := by decide) : z.1 k = m.1 k := h.1 k hk
theorem Cr.a {m z : Sg} (h : Cr m z) (k : Nat) (hk : pA k := by decide) : z.2 k = m.2 k := h.2 k hk
theorem Cr.tS {m z : Sg} (h : Cr m z) (k : Nat) (v : Int32) (hk : ¬ pS k := by decide) : Cr m (sS z k v) :=
  ⟨fun j hj => by rw [sS_ne z k j v (fun e => hk (e ▸ hj))]; exact h.1 j hj, h.2⟩
theorem Cr.tR {m z : Sg} (h : Cr m z) (k : Nat) (f : Nat → Int32) (hk : ¬ pA k := by decide) : Cr m (sR z k f) :=
  ⟨h.1, fun j hj => by rw [sR_ne z k j f (fun e => hk (e ▸ hj))]; exact h.2 j hj⟩
theorem Cr.tA {m z : Sg} (h : Cr m z) (k : Nat) (i v : Int32) (hk : ¬ pA k := by decide) : Cr m (sA z k i v) := h.tR k _ hk
theorem Cr.uS {m z : Sg} (h : Cr m z) (k : Nat) (v : Int32) : Cr (sS m k v) (sS z k v) :=
  ⟨fun j hj => by
    by_cases e : j = k
    · subst e; rw [sS_at, sS_at]
    · rw [sS_ne _ _ _ _ e, sS_ne _ _ _ _ e]; exact h.1 j hj, h.2⟩
theorem Cr.uR {m z : Sg} (h : Cr m z) (k : Nat) (f : Nat → Int32) : Cr (sR m k f) (sR z k f) :=
  ⟨h.1, fun j hj => by
    by_cases e : j = k
    · subst e; rw [sR_at, sR_at]
    · rw [sR_ne _ _ _ _ e, sR_ne _ _ _ _ e]; exact h.2 j hj⟩
theorem Cr.uA {m z : Sg} (h : Cr m z) (k : Nat) (i v : Int32) (hk : pA k := by decide) : Cr (sA m k i v) (sA z k i v) := by
  unfold sA
  rw [h.2 k hk]
  exact h.uR k _
def nT (m : Sg) : Nat := (m.1 0).toNatClampNeg
def nJ (m : Sg) : Nat := (m.1 1).toNatClampNeg
def nE (m : Sg) : Nat := (m.1 11).toNatClampNeg
/-- the k-th entry's i-th value -/
def vl (m : Sg) (k i : Nat) : Int32 := m.2 5 (5 * k + i)
/-- what an entry of a sort may hold -/
def eOk (m : Sg) (k s : Nat) : Prop :=
  (s = 0 → (0 ≤ (vl m k 0).toInt ∧ (vl m k 0).toInt ≤ 600) ∧ (1 ≤ (vl m k 1).toInt ∧ (vl m k 1).toInt ≤ 50) ∧ (0 ≤ (vl m k 2).toInt ∧ (vl m k 2).toInt ≤ 1)) ∧
  (s = 1 → ∀ i, i < 5 → vl m k i = -10000 ∨ (-999 ≤ (vl m k i).toInt ∧ (vl m k i).toInt ≤ 999)) ∧
  (s = 2 → ∀ i, i < 5 → 0 ≤ (vl m k i).toInt ∧ (vl m k i).toInt ≤ 40)
/-- the bounds that every run keeps -/
def iv (m : Sg) : Prop :=
  (m.1 0 = nI (nT m) ∧ nT m ≤ 60) ∧ (m.1 1 = nI (nJ m) ∧ nJ m ≤ 24) ∧ (m.1 11 = nI (nE m) ∧ nE m ≤ 200) ∧
  (1 ≤ (m.1 5).toInt ∧ (m.1 5).toInt ≤ 50) ∧
  (∀ i, i < 7 → (tb_LEAST i).toInt ≤ (m.2 1 i).toInt ∧ (m.2 1 i).toInt ≤ (tb_GREATEST i).toInt) ∧
  (∀ i, i < 5 → 0 ≤ (m.2 6 i).toInt ∧ (m.2 6 i).toInt ≤ 9) ∧
  (∀ k, k < nE m → ∃ s q : Nat, s < 4 ∧ q < 48 ∧ q % 24 < nJ m ∧ m.2 3 k = nI s ∧ m.2 4 k = nI q ∧ eOk m k s) ∧
  (-1 ≤ (m.1 3).toInt ∧ (m.1 3).toInt ≤ 600)
/-- the last of the first n entries of a sort and a jump -/
def lst (m : Sg) (s q : Nat) : Nat → Option Nat
  | 0 => none
  | n + 1 => if m.2 3 n = nI s ∧ m.2 4 n = nI q then some n else lst m s q n
def enc : Option Nat → Int32
  | none => -1
  | some k => nI k
theorem lst_lt {m : Sg} {s q : Nat} : ∀ {n k : Nat}, lst m s q n = some k → k < n
  | 0, k, h => by cases h
  | n + 1, k, h => by
    unfold lst at h
    split at h
    · cases h; omega
    · have := lst_lt h; omega
theorem lst_is {m : Sg} {s q : Nat} : ∀ {n k : Nat}, lst m s q n = some k → m.2 3 k = nI s ∧ m.2 4 k = nI q
  | 0, k, h => by cases h
  | n + 1, k, h => by
    unfold lst at h
    split at h
    · cases h; assumption
    · exact lst_is h
