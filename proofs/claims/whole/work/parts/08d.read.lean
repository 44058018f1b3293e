/-- the letter that a sign is, from the i-th on, f many -/
def ltf (s : Int32) : Nat → Nat → Option Nat
  | 0, _ => none
  | f + 1, i => if tb_LETTER i = s then some i else ltf s f (i + 1)
def lt7 (s : Int32) : Option Nat := ltf s 7 0
def encL : Option Nat → Int32
  | none => -1
  | some w => nI w
def encB : Option Nat → Int32
  | none => -10000
  | some w => nI w
/-- the k-th sign of a text of n bytes -/
def sg (m : Sg) (n k : Nat) : Int32 := if k < n then m.2 0 k else -1
def sM (m : Sg) (n k : Nat) : Int32 := if k < n then m.2 0 k else 0
abbrev isD (s : Int32) : Prop := 48 ≤ s.toInt ∧ s.toInt ≤ 57
abbrev okV (w : Nat) (v : Int32) : Prop := (tb_LEAST w).toInt ≤ v.toInt ∧ v.toInt ≤ (tb_GREATEST w).toInt
/-- the reading of a text: the fault and the draft -/
def rdm (m : Sg) (n : Nat) : Nat → Option Nat → Nat → Int32 → Nat → (Nat → Int32) → Int32 × (Nat → Int32)
  | 0, _, _, _, _, d => (0, d)
  | f + 1, none, _, _, k, d => match lt7 (sg m n k) with
    | none => (nI (100 + k), d)
    | some w => rdm m n f (some w) 0 0 (k + 1) d
  | f + 1, some w, g, v, k, d =>
    if isD (sg m n k) then (if g = 4 then (nI (300 + k), d) else rdm m n f (some w) (g + 1) ((v * 10 + sg m n k) - 48) (k + 1) d)
    else if g = 0 then (nI (200 + k), d) else if ¬ okV w v then (nI (400 + k - g), d) else if sg m n k = 59 ∨ sg m n k = -1 then rdm m n f none g v (k + 1) (upd d w v) else (nI (500 + k), d)
theorem ltf_lt {s : Int32} : ∀ {f i w : Nat}, ltf s f i = some w → i ≤ w ∧ w < i + f
  | 0, _, _, h => by cases h
  | f + 1, i, w, h => by
    unfold ltf at h
    split at h
    · cases h; omega
    · have := ltf_lt h; omega
theorem lt7_lt {s : Int32} {w : Nat} (h : lt7 s = some w) : w < 7 := by have := ltf_lt h; omega
theorem nI_n0 {a : Nat} (h : 0 < a) (h2 : a < 2000) : ¬ nI a = 0 := fun q => by
  have := q_nI (n := a) (by omega)
  rw [q] at this
  have h0 : (0 : Int32).toInt = 0 := rfl
  omega
section RED
variable {m z y : Sg} {n : Nat}
theorem rdm_bd : ∀ {f : Nat} {o : Option Nat} {g : Nat} {v : Int32} {k : Nat} {d : Nat → Int32}, (∀ i, i < 7 → okV i (d i)) → ∀ i, i < 7 → okV i ((rdm m n f o g v k d).2 i)
  | 0, _, _, _, _, _, h => h
  | f + 1, none, _, _, k, d, h => by
    unfold rdm
    split
    · exact h
    · exact rdm_bd h
  | f + 1, some w, g, v, k, d, h => by
    unfold rdm
    split
    · split
      · exact h
      · exact rdm_bd h
    · split
      · exact h
      · split
        · exact h
        · rename_i _ _ hv
          split
          · refine rdm_bd (fun i hi => ?_)
            by_cases e : i = w
            · subst e; rw [upd_at]; exact Classical.not_not.mp hv
            · rw [upd_ne _ _ _ _ e]; exact h i hi
          · exact h
theorem e_letterOf {u : Sg} {post : Int32 → Sg → Prop} (s : Int32) (h : post (encL (lt7 s)) u) : pX2_letterOf s u post := by
  unfold pX2_letterOf pX2_letterOf_l2
  refine lp_intro (fun (a : Int32 × Int32) (w : Sg) => w = u ∧ a.1 = s ∧ ∃ i : Nat, i ≤ 7 ∧ a.2 = nI i ∧ lt7 s = ltf s (7 - i) i) (fun a _ => 7 - a.2.toNatClampNeg) ?_ _ _ ⟨rfl, rfl, 0, by omega, rfl, rfl⟩
  rintro K ⟨a, b⟩ w ⟨rfl, ha, i, hi, hb, hl⟩ ih
  simp only at ha hb ih ⊢
  subst ha hb
  have e := q_nI (n := i) (by omega)
  have e1 := q_nI (n := i + 1) (by omega)
  unfold pX2_letterOf_b2
  refine ⟨fun c => ?_, fun c => ⟨?_, fun d => ?_, fun d => ?_⟩⟩
  all_goals simp only [q_le, e, Int32.reduceToInt] at c
  · have : i = 7 := by omega
    subst this
    rw [hl] at h
    exact h
  · exact q_in e (by omega)
  · rw [q_cl e] at d
    refine ih _ _ ⟨rfl, rfl, i + 1, by omega, nI_1 i, ?_⟩ (by simp only [nI_1, q_cl e, q_cl e1]; omega)
    rw [hl, show 7 - i = (7 - (i + 1)) + 1 by omega, ltf, if_neg d]
  · rw [q_cl e] at d
    rw [hl, show 7 - i = (7 - (i + 1)) + 1 by omega, ltf, if_pos d] at h
    exact h
theorem e_canBe {u : Sg} {post : Int32 → Sg → Prop} {w : Nat} {v : Int32} (hw : w < 7) (h1 : okV w v → post 1 u) (h0 : ¬ okV w v → post 0 u) : pX2_canBe (nI w) v u post := by
  have ew := q_nI (n := w) (by omega)
  have n0 : ¬ okV w v → pX2_canBe_b29 post u := fun a => by
    unfold pX2_canBe_b29 pX2_canBe_b30
    exact ⟨Or.inl rfl, h0 a⟩
  unfold pX2_canBe pX2_canBe_b30
  rw [q_cl ew]
  refine e_isLetter _ (fun _ => ⟨fun c => absurd c (by decide), fun _ => ⟨q_in ew hw, fun d => n0 ?_, fun d => ⟨q_in ew hw, fun e => n0 ?_, fun e => ⟨Or.inr rfl, h1 ?_⟩⟩⟩⟩) (fun q => absurd ⟨by omega, by omega⟩ q)
  · simp only [q_lt] at d; omega
  · simp only [q_lt] at e; omega
  · simp only [q_lt] at d e; exact ⟨by omega, by omega⟩
theorem e_fault {u : Sg} {post : Int32 → Sg → Prop} {w g k : Nat} {v s : Int32} (hw : w < 7) (hg : g ≤ 4) (hk : k ≤ 100)
    (h2 : g = 0 → post (nI (200 + k)) u) (h4 : ¬ g = 0 → ¬ okV w v → post (nI (400 + k - g)) u) (h5 : ¬ g = 0 → okV w v → ¬ (s = 59 ∨ s = -1) → post (nI (500 + k)) u)
    (h0 : ¬ g = 0 → okV w v → (s = 59 ∨ s = -1) → post 0 u) : pX2_faultOfClause (nI w) v (nI g) s (nI k) u post := by
  have eg := q_nI (n := g) (by omega)
  unfold pX2_faultOfClause pX2_faultOfClause_b39 pX2_faultOfClause_b49
  refine ⟨fun c => e_canBe hw (fun d => ⟨fun _ => ?_, fun a => absurd a (by decide)⟩) (fun d => ⟨fun a => absurd rfl a, fun _ => ?_⟩), fun c => ?_⟩
  all_goals have c1 := c
  all_goals simp only [q_eq, eg, Int32.reduceToInt] at c1
  · refine ⟨fun f => h0 (by omega) d (Or.inl f), fun f => ⟨fun f2 => ?_, fun f2 => h0 (by omega) d (Or.inr f2)⟩⟩
    rw [show (500 : Int32) = nI 500 from rfl, nI_add]
    exact h5 (by omega) d (fun q => q.elim f f2)
  · rw [show (400 : Int32) = nI 400 from rfl, nI_add, pk_sub (by omega)]
    exact h4 (by omega) d
  · rw [show (200 : Int32) = nI 200 from rfl, nI_add]
    exact h2 (by omega)
theorem c_read {post : Int32 → Sg → Prop} (hn : n ≤ 60) (hz : z.2 0 = m.2 0)
    (h : ∀ R, R = rdm m n (n + 1) none 0 0 0 (va_cpy tb_FIRST (z.2 2) 0 0 7) → post R.1 (if R.1 = 0 then sR (sR z 2 R.2) 1 (va_cpy R.2 (z.2 1) 0 0 7) else sR z 2 R.2)) : pX2_read (nI n) z post := by
  obtain ⟨R, hR⟩ : ∃ R, R = rdm m n (n + 1) none 0 0 0 (va_cpy tb_FIRST (z.2 2) 0 0 7) := ⟨_, rfl⟩
  have h := h R hR
  have en := q_nI (n := n) (by omega)
  have flt : ∀ (a : Nat) (d : Nat → Int32), 0 < a → a < 2000 → (nI a, d) = R → post (nI a) (sR z 2 d) := fun a d h1 h2 e => by
    subst e
    rw [if_neg (nI_n0 h1 h2)] at h
    exact h
  unfold pX2_read pX2_read_l25
  refine lp_intro (fun (a : Int32 × Int32 × Int32 × Int32 × Int32) (u : Sg) => ∃ (k g : Nat) (o : Option Nat) (d : Nat → Int32), k ≤ n + 1 ∧ a.1 = nI n ∧ a.2.1 = encL o ∧ a.2.2.1 = nI g ∧ a.2.2.2.2 = nI k ∧ g ≤ 4 ∧ (∀ w, o = some w → w < 7) ∧ u = sR z 2 d ∧ rdm m n (n + 1 - k) o g a.2.2.2.1 k d = R) (fun a _ => 62 - a.2.2.2.2.toNatClampNeg) ?_ _ _ ⟨0, 0, none, _, by omega, rfl, rfl, rfl, rfl, by omega, (fun w hw => nomatch hw), rfl, hR.symm⟩
  rintro K ⟨x2, x3, x4, x5, x6⟩ u ⟨k, g, o, d, hk, h2, h3, h4, h6, hg, ho, hu, hr⟩ ih
  simp only at h2 h3 h4 h6 hr ih ⊢
  subst h2 h3 h4 h6 hu
  have e := q_nI (n := k) (by omega)
  have e1 := q_nI (n := k + 1) (by omega)
  have eg := q_nI (n := g) (by omega)
  unfold pX2_read_b25 pX2_read_b51
  refine ⟨fun c => ?_, fun c => ?_⟩
  · simp only [q_lt, en, e] at c
    rw [show n + 1 - k = 0 by omega] at hr
    have hr : (0, d) = R := hr
    subst hr
    rw [sR_at, sR_ne _ _ _ _ (show 1 ≠ 2 by decide)]
    exact h
  · simp only [q_lt, en, e] at c
    rw [show n + 1 - k = (n - k) + 1 by omega] at hr
    have key : ∀ s, s = sg m n k → pX2_read_b52 (fun (x2 x3 x4 x5 x6 : Int32) z => K (x2, x3, x4, x5, x6) z) post (nI n) (encL o) (nI g) x5 (nI k) s (sR z 2 d) := by
      intro s hs
      have nx : ∀ (g2 : Nat) (o2 : Option Nat) (v2 : Int32) (d2 : Nat → Int32), g2 ≤ 4 → (∀ w, o2 = some w → w < 7) → rdm m n (n - k) o2 g2 v2 (k + 1) d2 = R → K (nI n, encL o2, nI g2, v2, nI k + 1) (sR z 2 d2) := fun g2 o2 v2 d2 a1 a2 a3 =>
        ih _ _ ⟨k + 1, g2, o2, d2, by omega, rfl, rfl, rfl, nI_1 k, a1, a2, rfl, by rw [show n + 1 - (k + 1) = n - k by omega]; exact a3⟩ (by simp only [nI_1, q_cl e, q_cl e1]; omega)
      unfold pX2_read_b52
      cases o with
      | none =>
        refine e_isLetter _ (fun q => absurd q.1 (by decide)) (fun _ => ⟨fun q => absurd rfl q, fun _ => ?_⟩)
        unfold rdm at hr
        rw [← hs] at hr
        refine e_letterOf s ?_
        cases hl : lt7 s with
        | none =>
          rw [hl] at hr
          refine e_isLetter _ (fun q => absurd q.1 (by decide)) (fun _ => ⟨fun q => absurd rfl q, fun _ => ?_⟩)
          rw [show (100 : Int32) = nI 100 from rfl, nI_add]
          exact flt _ _ (by omega) (by omega) hr
        | some w =>
          rw [hl] at hr
          have hw := lt7_lt hl
          have ew := q_nI (n := w) (by omega)
          refine e_isLetter _ (fun _ => ⟨fun _ => ?_, fun q => absurd q (by decide)⟩) (fun q => absurd ⟨by show 0 ≤ (nI w).toInt; omega, by show (nI w).toInt < 7; omega⟩ q)
          exact nx 0 (some w) 0 d (by omega) (fun w2 h2 => by cases h2; exact hw) hr
      | some w =>
        have hw := ho w rfl
        have ew := q_nI (n := w) (by omega)
        unfold rdm at hr
        rw [← hs] at hr
        refine e_isLetter _ (fun _ => ⟨fun _ => ?_, fun q => absurd q (by decide)⟩) (fun q => absurd ⟨by show 0 ≤ (nI w).toInt; omega, by show (nI w).toInt < 7; omega⟩ q)
        have nd : ¬ isD s → pX2_read_b135 (fun (x2 x3 x4 x5 x6 : Int32) z => K (x2, x3, x4, x5, x6) z) post (nI n) (encL (some w)) (nI g) x5 (nI k) s (sR z 2 d) := by
          intro hd
          rw [if_neg hd] at hr
          unfold pX2_read_b135
          refine e_fault (w := w) hw hg (by omega) (fun c0 => ⟨fun q => absurd q (nI_n0 (by omega) (by omega)), fun _ => flt _ _ (by omega) (by omega) ?_⟩) (fun c0 c1 => ⟨fun q => absurd q (nI_n0 (by omega) (by omega)), fun _ => flt _ _ (by omega) (by omega) ?_⟩) (fun c0 c1 c2 => ⟨fun q => absurd q (nI_n0 (by omega) (by omega)), fun _ => flt _ _ (by omega) (by omega) ?_⟩) (fun c0 c1 c2 => ⟨fun _ => ⟨q_in ew hw, ?_⟩, fun q => absurd rfl q⟩)
          · rw [if_pos c0] at hr; exact hr
          · rw [if_neg c0, if_pos c1] at hr; exact hr
          · rw [if_neg c0, if_neg (fun q => q c1), if_neg c2] at hr; exact hr
          · rw [if_neg c0, if_neg (fun q => q c1), if_pos c2] at hr
            have es : sA (sR z 2 d) 2 (encL (some w)) x5 = sR z 2 (upd d w x5) := by
              unfold sA
              rw [sR_at, sR_sR]
              show sR z 2 (upd d (nI w).toNatClampNeg x5) = _
              rw [q_cl ew]
            rw [es]
            exact nx g none x5 _ hg (fun w2 h2 => by cases h2) hr
        refine ⟨fun c1 => nd ?_, fun c1 => ⟨fun c2 => nd ?_, fun c2 => ⟨fun c4 v hv => ?_, fun c4 => ?_⟩⟩⟩
        · simp only [q_lt, Int32.reduceToInt] at c1; unfold isD; omega
        · simp only [q_lt, Int32.reduceToInt] at c2; unfold isD; omega
        all_goals have hd : isD s := by simp only [q_lt, Int32.reduceToInt] at c1 c2; unfold isD; omega
        all_goals rw [if_pos hd] at hr
        all_goals simp only [q_eq, eg, Int32.reduceToInt] at c4
        · rw [if_neg (by omega), ← hv] at hr
          unfold pX2_read_b167
          rw [nI_1]
          exact nx (g + 1) (some w) v d (by omega) ho hr
        · rw [if_pos (by omega)] at hr
          rw [show (300 : Int32) = nI 300 from rfl, nI_add]
          exact flt _ _ (by omega) (by omega) hr
    refine ⟨fun c1 => key _ ?_, fun c1 => ⟨fun c2 => ?_, fun c2 => ⟨q_in e ?_, key _ ?_⟩⟩⟩
    · simp only [q_le, en, e] at c1
      unfold sg
      rw [if_neg (by omega)]
    · simp only [q_le, en, e, Int32.reduceToInt] at c1 c2; omega
    · simp only [q_le, en, e, Int32.reduceToInt] at c1 c2; omega
    · simp only [q_le, en, e] at c1
      unfold sg gA
      rw [if_pos (by omega), sR_ne _ _ _ _ (by decide), hz, q_cl e]
end RED
