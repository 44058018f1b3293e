section RDG
variable {m z y : Sg} {n : Nat}
theorem g_letter {u : Sg} {post : Int32 → Sg → Prop} (s : Int32) (h : post (encB (lt7 s)) u) : pX5_letter s u post := by
  unfold pX5_letter
  refine ⟨fun c => by subst c; exact h, fun d99 => ⟨fun c => by subst c; exact h, fun d100 => ⟨fun c => by subst c; exact h, fun d101 => ⟨fun c => by subst c; exact h, fun d102 => ⟨fun c => by subst c; exact h, fun d103 => ⟨fun c => by subst c; exact h, fun d104 => ⟨fun c => by subst c; exact h, fun d105 => ⟨fun c => by subst c; exact h, fun d106 => ⟨fun c => by subst c; exact h, fun d107 => ⟨fun c => by subst c; exact h, fun d108 => ⟨fun c => by subst c; exact h, fun d109 => ⟨fun c => by subst c; exact h, fun d110 => ⟨fun c => by subst c; exact h, fun d111 => ⟨fun c => by subst c; exact h, fun d112 => ⟨fun c => by subst c; exact h, fun d113 => ⟨fun c => by subst c; exact h, fun d114 => ⟨fun c => by subst c; exact h, fun d115 => ⟨fun c => by subst c; exact h, fun d116 => ⟨fun c => by subst c; exact h, fun d117 => ⟨fun c => by subst c; exact h, fun d118 => ⟨fun c => by subst c; exact h, fun d119 => ?_⟩⟩⟩⟩⟩⟩⟩⟩⟩⟩⟩⟩⟩⟩⟩⟩⟩⟩⟩⟩⟩
  have e : lt7 s = none := by
    unfold lt7
    have g : ∀ i, i < 7 → ¬ tb_LETTER i = s := fun i hi => by
      have : i = 0 ∨ i = 1 ∨ i = 2 ∨ i = 3 ∨ i = 4 ∨ i = 5 ∨ i = 6 := by omega
      rcases this with rfl | rfl | rfl | rfl | rfl | rfl | rfl
      · exact fun q => d107 q.symm
      · exact fun q => d109 q.symm
      · exact fun q => d119 q.symm
      · exact fun q => d103 q.symm
      · exact fun q => d104 q.symm
      · exact fun q => d99 q.symm
      · exact fun q => d116 q.symm
    simp only [ltf, if_neg (g 0 (by omega)), if_neg (g 1 (by omega)), if_neg (g 2 (by omega)), if_neg (g 3 (by omega)), if_neg (g 4 (by omega)), if_neg (g 5 (by omega)), if_neg (g 6 (by omega)), Nat.zero_add, Nat.reduceAdd]
  rw [e] at h
  exact h
theorem g_canBe {u : Sg} {post : Int32 → Sg → Prop} (w : Nat) (hw : w < 7) (v : Int32) (hv : 0 ≤ v.toInt) (h1 : okV w v → post 1 u) (h0 : ¬ okV w v → post 0 u) : pX5_canBe (nI w) v u post := by
  unfold pX5_canBe pX5_canBe_b61 pX5_canBe_b74 pX5_canBe_b87 pX5_canBe_b106
  have : w = 0 ∨ w = 1 ∨ w = 2 ∨ w = 3 ∨ w = 4 ∨ w = 5 ∨ w = 6 := by omega
  rcases this with rfl | rfl | rfl | rfl | rfl | rfl | rfl
  · refine ⟨fun _ => g_lies v 20 600 (fun c => ⟨Or.inr rfl, h1 c⟩) (fun c => ⟨Or.inl rfl, h0 c⟩), fun c => absurd rfl c⟩
  · refine ⟨fun c => absurd c (by decide), fun _ => ⟨fun _ => ⟨fun c => ⟨Or.inl rfl, h0 (fun q => ?_)⟩, fun c => ⟨Or.inr rfl, h1 ⟨hv, ?_⟩⟩⟩, fun c => absurd rfl c⟩⟩
    · have q : 0 ≤ v.toInt ∧ v.toInt ≤ 99 := q
      simp only [q_lt, Int32.reduceToInt] at c; omega
    · show v.toInt ≤ 99
      simp only [q_lt, Int32.reduceToInt] at c; omega
  · refine ⟨fun c => absurd c (by decide), fun _ => ⟨fun c => absurd c (by decide), fun _ => ⟨fun _ => ⟨fun c => ⟨Or.inl rfl, h0 (fun q => ?_)⟩, fun c => ⟨Or.inr rfl, h1 ⟨hv, ?_⟩⟩⟩, fun c => absurd rfl c⟩⟩⟩
    · have q : 0 ≤ v.toInt ∧ v.toInt ≤ 999 := q
      simp only [q_lt, Int32.reduceToInt] at c; omega
    · show v.toInt ≤ 999
      simp only [q_lt, Int32.reduceToInt] at c; omega
  · refine ⟨fun c => absurd c (by decide), fun _ => ⟨fun c => absurd c (by decide), fun _ => ⟨fun c => absurd c (by decide), fun _ => ⟨fun _ => ⟨fun c => ⟨Or.inl rfl, h0 (fun q => ?_)⟩, fun c => ⟨Or.inr rfl, h1 ⟨hv, ?_⟩⟩⟩, fun c => absurd rfl c⟩⟩⟩⟩
    · have q : 0 ≤ v.toInt ∧ v.toInt ≤ 999 := q
      simp only [q_lt, Int32.reduceToInt] at c; omega
    · show v.toInt ≤ 999
      simp only [q_lt, Int32.reduceToInt] at c; omega
  · refine ⟨fun c => absurd c (by decide), fun _ => ⟨fun c => absurd c (by decide), fun _ => ⟨fun c => absurd c (by decide), fun _ => ⟨fun c => absurd c (by decide), fun _ => ⟨fun _ => ⟨fun c => ⟨Or.inl rfl, h0 (fun q => ?_)⟩, fun c => ⟨Or.inr rfl, h1 ⟨hv, ?_⟩⟩⟩, fun c => absurd rfl c⟩⟩⟩⟩⟩
    · have q : 0 ≤ v.toInt ∧ v.toInt ≤ 200 := q
      simp only [q_lt, Int32.reduceToInt] at c; omega
    · show v.toInt ≤ 200
      simp only [q_lt, Int32.reduceToInt] at c; omega
  · refine ⟨fun c => absurd c (by decide), fun _ => ⟨fun c => absurd c (by decide), fun _ => ⟨fun c => absurd c (by decide), fun _ => ⟨fun c => absurd c (by decide), fun _ => ⟨fun c => absurd c (by decide), fun _ => ⟨fun _ => g_lies v 1 24 (fun c => ⟨Or.inr rfl, h1 c⟩) (fun c => ⟨Or.inl rfl, h0 c⟩), fun c => absurd rfl c⟩⟩⟩⟩⟩⟩
  · refine ⟨fun c => absurd c (by decide), fun _ => ⟨fun c => absurd c (by decide), fun _ => ⟨fun c => absurd c (by decide), fun _ => ⟨fun c => absurd c (by decide), fun _ => ⟨fun c => absurd c (by decide), fun _ => ⟨fun c => absurd c (by decide), fun _ => ⟨fun c => ⟨Or.inl rfl, h0 (fun q => ?_)⟩, fun c => ⟨Or.inr rfl, h1 ⟨hv, ?_⟩⟩⟩⟩⟩⟩⟩⟩⟩
    · have q : 0 ≤ v.toInt ∧ v.toInt ≤ 1 := q
      simp only [q_lt, Int32.reduceToInt] at c; omega
    · show v.toInt ≤ 1
      simp only [q_lt, Int32.reduceToInt] at c; omega
theorem g_at {u : Sg} {post : Int32 → Sg → Prop} (hn : n ≤ 60) (hT : ∀ i, i < n → u.2 0 i &&& 255 = m.2 0 i) (k : Nat) (hk : k ≤ 100) (h : post (sM m n k) u) : pX5_at (nI k) (nI n) u post := by
  have e := q_nI (n := k) (by omega)
  have en := q_nI (n := n) (by omega)
  unfold pX5_at pX5_at_b19
  unfold sM at h
  refine ⟨fun c => ?_, fun c => ⟨q_in e ?_, ?_⟩⟩ <;> simp only [q_le, e, en] at c
  · rw [if_neg (by omega)] at h; exact h
  · omega
  · rw [if_pos (by omega), ← hT k (by omega)] at h
    unfold gA
    rw [q_cl e]
    exact h
theorem sM_sg {k : Nat} (hk : k < n) : sM m n k = sg m n k := by unfold sM sg; rw [if_pos hk, if_pos hk]
theorem byte_bd {x v : Int32} (h : x &&& 255 = v) : 0 ≤ v.toInt ∧ v.toInt ≤ 255 := by
  subst h
  have h1 : (x &&& 255).toBitVec.toNat ≤ 255 := by
    rw [Int32.toBitVec_and, BitVec.toNat_and]
    exact Nat.and_le_right
  have h2 : (x &&& 255).toInt = (x &&& 255).toBitVec.toInt := rfl
  rw [h2, BitVec.toInt_eq_toNat_cond]
  split <;> omega
theorem v10 {v s : Int32} (hv : 0 ≤ v.toInt ∧ v.toInt ≤ 999) (hs : isD s) : ((v * 10 + s) - 48).toInt = v.toInt * 10 + s.toInt - 48 := by
  have h10 : (10 : Int32).toInt = 10 := rfl
  have h48 : (48 : Int32).toInt = 48 := rfl
  have hs2 := hs
  unfold isD at hs2
  have e1 : (v * 10).toInt = v.toInt * 10 := by
    rw [Int32.toInt_mul, h10]
    exact q_bd (M := 20000) (by omega) (by omega) (by omega)
  have e2 : (v * 10 + s).toInt = v.toInt * 10 + s.toInt := by
    rw [Int32.toInt_add, e1]
    exact q_bd (M := 20000) (by omega) (by omega) (by omega)
  rw [Int32.toInt_sub, e2, h48]
  exact q_bd (M := 20000) (by omega) (by omega) (by omega)
/-- what digits can spell -/
def vOk (g : Nat) (v : Int32) : Prop := 0 ≤ v.toInt ∧ g ≤ 4 ∧ v.toInt ≤ 9999 ∧ (g ≤ 3 → v.toInt ≤ 999) ∧ (g ≤ 2 → v.toInt ≤ 99) ∧ (g ≤ 1 → v.toInt ≤ 9) ∧ (g = 0 → v.toInt = 0)
theorem vOk_step {g : Nat} {v s : Int32} (h : vOk g v) (hg : ¬ g = 4) (hs : isD s) : vOk (g + 1) ((v * 10 + s) - 48) := by
  unfold vOk at *
  have e := v10 (v := v) (s := s) (by omega) hs
  unfold isD at hs
  rw [e]
  omega
theorem g_reads {post : Int32 → Sg → Prop} (hn : n ≤ 60) (hT : ∀ i, i < n → y.2 0 i &&& 255 = m.2 0 i) (d0 : Nat → Int32) (h0 : ∀ i, i < 7 → d0 i = tb_FIRST i) (R : Int32 × (Nat → Int32))
    (hR : rdm m n (n + 1) none 0 0 0 d0 = R) (h : ∀ r : Nat → Int32, (R.1 = 0 → ∀ i, i < 7 → r i = R.2 i) → post R.1 (sR y 2 r)) : pX5_reads (nI n) y post := by
  have en := q_nI (n := n) (by omega)
  have hU : ∀ (r : Nat → Int32) i, i < n → (sR y 2 r).2 0 i &&& 255 = m.2 0 i := fun r i hi => by rw [sR_ne _ _ _ _ (by decide)]; exact hT i hi
  have at_ : ∀ {P : Int32 → Sg → Prop} (r : Nat → Int32) (k : Nat), k ≤ 100 → P (sM m n k) (sR y 2 r) → pX5_at (nI k) (nI n) (sR y 2 r) P := fun r k hk hp => g_at hn (hU r) k hk hp
  have as1 : ∀ (P : Sg → Prop), (∀ r : Nat → Int32, (∀ i, i < 7 → r i = tb_FIRST i) → P (sR y 2 r)) → pX5_asAtFirst y P := by
    intro P hP
    have sA2 : ∀ (r : Nat → Int32) (k : Nat) (v : Int32), k < 100 → sA (sR y 2 r) 2 (nI k) v = sR y 2 (upd r k v) := fun r k v hk => by
      unfold sA
      rw [sR_at, sR_sR, q_cl (q_nI (by omega))]
    unfold pX5_asAtFirst
    refine ⟨vp_in_iff.mpr (by decide), vp_in_iff.mpr (by decide), fun w4 h4 => ⟨vp_in_iff.mpr (by decide), vp_in_iff.mpr (by decide), fun w7 h7 => ⟨vp_in_iff.mpr (by decide), vp_in_iff.mpr (by decide), fun w10 h10 => ⟨vp_in_iff.mpr (by decide), ?_⟩⟩⟩⟩
    subst h10
    subst h7
    subst h4
    have hy : y = sR y 2 (y.2 2) := (sR_self y 2).symm
    rw [show sA y 2 0 240 = sR y 2 (upd (y.2 2) 0 240) from by
      have := sA2 (y.2 2) 0 240 (by omega)
      rw [← hy] at this
      exact this]
    rw [show (1 : Int32) = nI 1 from rfl, show (2 : Int32) = nI 2 from rfl, show (3 : Int32) = nI 3 from rfl, show (4 : Int32) = nI 4 from rfl, show (5 : Int32) = nI 5 from rfl, show (6 : Int32) = nI 6 from rfl]
    rw [sA2 _ 1 _ (by omega), sA2 _ 2 _ (by omega), sA2 _ 3 _ (by omega), sA2 _ 4 _ (by omega), sA2 _ 5 _ (by omega), sA2 _ 6 _ (by omega)]
    refine hP _ (fun i hi => ?_)
    have : i = 0 ∨ i = 1 ∨ i = 2 ∨ i = 3 ∨ i = 4 ∨ i = 5 ∨ i = 6 := by omega
    rcases this with rfl | rfl | rfl | rfl | rfl | rfl | rfl <;> rfl
  unfold pX5_reads
  refine as1 _ (fun r0 hr0 => ?_)
  unfold pX5_reads_l11
  refine lp_intro (fun (a : Int32 × Int32 × Int32) (u : Sg) => ∃ (k i g : Nat) (v : Int32) (d r : Nat → Int32), a.1 = nI n ∧ a.2.1 = nI k ∧ a.2.2 = nI i ∧ k ≤ n ∧ i ≤ k ∧ u = sR y 2 r ∧ (∀ i, i < 7 → r i = d i) ∧ rdm m n (n + 1 - k) none g v k d = R) (fun a _ => 100 - a.2.1.toNatClampNeg) ?_ _ _ ⟨0, 0, 0, 0, d0, r0, rfl, rfl, rfl, by omega, by omega, rfl, fun i hi => (hr0 i hi).trans (h0 i hi).symm, hR⟩
  rintro K ⟨x1, x2, x3⟩ u ⟨k, i, g, v, d, r, h1, h2, h3, hk, hi, hu, hrd, hr⟩ ih
  simp only at h1 h2 h3 ih ⊢
  subst h1 h2 h3 hu
  have e := q_nI (n := k) (by omega)
  have ei := q_nI (n := i) (by omega)
  have e1 := q_nI (n := k + 1) (by omega)
  have fin : ∀ (a : Nat) (d : Nat → Int32) (r : Nat → Int32), 0 < a → a < 2000 → (nI a, d) = R → post (nI a) (sR y 2 r) := fun a d r h1 h3 h2 => by
    subst h2
    exact h r (fun q => absurd q (nI_n0 h1 h3))
  rw [show n + 1 - k = (n - k) + 1 by omega] at hr
  unfold rdm at hr
  unfold pX5_reads_b11
  refine ⟨fun c => ?_, fun c => at_ r k (by omega) (g_letter _ ?_)⟩
  · simp only [q_lt, en, ei] at c; omega
  · clear c
    by_cases ck : k < n
    · rw [sM_sg ck]
      cases hl : lt7 (sg m n k) with
      | none =>
        rw [hl] at hr
        refine ⟨fun q => absurd rfl q, fun _ => ?_⟩
        rw [show (100 : Int32) = nI 100 from rfl, nI_add]
        exact fin _ _ _ (by omega) (by omega) hr
      | some w =>
        rw [hl] at hr
        have hr : rdm m n (n - k) (some w) 0 0 (k + 1) d = R := hr
        have hw := lt7_lt hl
        have ew := q_nI (n := w) (by omega)
        refine ⟨fun _ => ?_, fun q => ?_⟩
        · rw [nI_1]
          refine at_ r (k + 1) (by omega) (g_lies _ 48 57 (fun c => ⟨fun _ v12 hv12 => ?_, fun q => absurd q (by decide)⟩) (fun c => ⟨fun q => absurd rfl q, fun _ => ?_⟩))
          · subst hv12
            unfold pX5_reads_l71
            refine lp_intro (fun (a : Int32 × Int32 × Int32 × Int32 × Int32 × Int32) (u2 : Sg) => ∃ (j g : Nat) (v : Int32), a.1 = nI n ∧ a.2.1 = nI j ∧ a.2.2.1 = nI i ∧ a.2.2.2.1 = nI w ∧ a.2.2.2.2.1 = nI (k + 1) ∧ a.2.2.2.2.2 = v ∧ j = k + 1 + g ∧ j ≤ n ∧ vOk g v ∧ (g = 0 → isD (sM m n j)) ∧ u2 = sR y 2 r ∧ rdm m n (n + 1 - j) (some w) g v j d = R) (fun a _ => 100 - a.2.1.toNatClampNeg) ?_ _ _ ⟨k + 1, 0, 0, rfl, rfl, rfl, rfl, rfl, rfl, by omega, by omega, (by unfold vOk; decide), fun _ => c, rfl, by rw [show n + 1 - (k + 1) = n - k by omega]; exact hr⟩
            rintro K2 ⟨x1, x2, x3, x4, x5, x6⟩ u2 ⟨j, g, v, a1, a2, a3, a4, a5, a6, hj, hjn, hvo, hd0, hu2, hr2⟩ ih2
            simp only at a1 a2 a3 a4 a5 a6 ih2 ⊢
            subst a1 a2 a3 a4 a5 a6 hu2
            have ej := q_nI (n := j) (by omega)
            have ej1 := q_nI (n := j + 1) (by omega)
            have ek5 := q_nI (n := k + 1 + 4) (by omega)
            rw [show n + 1 - j = (n - j) + 1 by omega] at hr2
            unfold rdm at hr2
            unfold pX5_reads_b71
            refine at_ r j (by omega) (g_lies _ 48 57 (fun cd => ⟨fun q => absurd q (by decide), fun _ => ?_⟩) (fun cd => ⟨fun _ => ?_, fun q => absurd rfl q⟩))
            · have cd : isD (sM m n j) := cd
              have hjn2 : j < n := by
                apply Classical.byContradiction
                intro q
                unfold sM at cd
                rw [if_neg q] at cd
                exact absurd cd.1 (by decide)
              rw [sM_sg hjn2] at cd
              rw [if_pos cd] at hr2
              rw [show nI (k + 1) + 4 = nI (k + 1 + 4) from nI_add _ 4]
              refine ⟨fun c4 => at_ r j (by omega) (fun v17 hv17 => ?_), fun c4 => ?_⟩ <;> simp only [q_eq, ej, ek5] at c4
              · rw [if_neg (by omega)] at hr2
                rw [sM_sg hjn2, Int32.mul_comm] at hv17
                refine ih2 _ _ ⟨j + 1, g + 1, v17, rfl, nI_1 j, rfl, rfl, rfl, rfl, by omega, by omega, ?_, fun q => absurd q (by omega), rfl, ?_⟩ (by simp only [nI_1, q_cl ej, q_cl ej1]; omega)
                · rw [hv17]; exact vOk_step hvo (by omega) cd
                · rw [hv17, show n + 1 - (j + 1) = n - j by omega]; exact hr2
              · rw [if_pos (by omega)] at hr2
                rw [show (300 : Int32) = nI 300 from rfl, nI_add]
                exact fin _ _ _ (by omega) (by omega) hr2
            · have cd : ¬ isD (sM m n j) := cd
              have g0 : ¬ g = 0 := fun q => cd (hd0 q)
              have cd2 : ¬ isD (sg m n j) := by
                by_cases q : j < n
                · rw [← sM_sg q]; exact cd
                · unfold sg; rw [if_neg q]; exact fun q2 => absurd q2.1 (by decide)
              rw [if_neg cd2, if_neg g0] at hr2
              have eA : sA (sR y 2 r) 2 (nI w) x6 = sR y 2 (upd r w x6) := by
                unfold sA
                rw [sR_at, sR_sR, q_cl ew]
              have hrd2 : ∀ i, i < 7 → upd r w x6 i = upd d w x6 i := fun i hi => by
                by_cases q : i = w
                · subst q; rw [upd_at, upd_at]
                · rw [upd_ne _ _ _ _ q, upd_ne _ _ _ _ q]; exact hrd i hi
              refine g_canBe w hw x6 hvo.1 (fun hok => ⟨fun _ => ⟨q_in ew hw, fun cj => ?_, fun cj => ?_⟩, fun q => absurd q (by decide)⟩) (fun hok => ⟨fun q => absurd rfl q, fun _ => ?_⟩)
              · have hjn2 : j < n := by
                  have : ¬ j = n := fun q => cj (by rw [q])
                  omega
                rw [eA]
                refine at_ _ j (by omega) ?_
                rw [sM_sg hjn2]
                have hb := byte_bd (hT j hjn2)
                have hs1 : ¬ sg m n j = -1 := fun q => by
                  unfold sg at q
                  rw [if_pos hjn2] at q
                  rw [q] at hb
                  exact absurd hb.1 (by decide)
                rw [if_neg (fun q => q hok)] at hr2
                refine ⟨fun c59 => ?_, fun c59 => ?_⟩
                · rw [if_pos (Or.inl c59)] at hr2
                  exact ih _ _ ⟨j + 1, i + 1, g, x6, _, _, rfl, nI_1 j, nI_1 i, by omega, by omega, rfl, hrd2, by rw [show n + 1 - (j + 1) = n - j by omega]; exact hr2⟩ (by simp only [nI_1, q_cl e, q_cl ej1]; omega)
                · rw [if_neg (fun q => q.elim c59 hs1)] at hr2
                  rw [show (500 : Int32) = nI 500 from rfl, nI_add]
                  exact fin _ _ _ (by omega) (by omega) hr2
              · have : j = n := (nI_eq (by omega) (by omega)).mp cj
                subst this
                rw [if_neg (fun q => q hok), if_pos (Or.inr (by unfold sg; rw [if_neg (by omega)])), show j - j = 0 by omega] at hr2
                have hr2 : (0, upd d w x6) = R := hr2
                subst hr2
                rw [eA]
                exact h _ (fun _ => hrd2)
              · rw [if_pos hok] at hr2
                rw [show (400 : Int32) = nI 400 from rfl, nI_add, show 400 + (k + 1) = 400 + j - g by omega]
                exact fin _ _ _ (by omega) (by omega) hr2
          · have cd2 : ¬ isD (sg m n (k + 1)) := by
              by_cases q : k + 1 < n
              · rw [← sM_sg q]; exact c
              · unfold sg; rw [if_neg q]; exact fun q2 => absurd q2.1 (by decide)
            rw [show n - k = (n - (k + 1)) + 1 by omega] at hr
            unfold rdm at hr
            rw [if_neg cd2, if_pos rfl] at hr
            rw [show (200 : Int32) = nI 200 from rfl, nI_add]
            exact fin _ _ _ (by omega) (by omega) hr
        · exfalso
          have : (nI w).toInt = -10000 := by
            have q : nI w = -10000 := q
            rw [q]
            decide
          omega
    · have hkn : k = n := by omega
      subst hkn
      have e0 : sM m k k = 0 := by unfold sM; rw [if_neg (by omega)]
      have e2 : sg m k k = -1 := by unfold sg; rw [if_neg (by omega)]
      rw [e0]
      rw [e2] at hr
      have hr : (nI (100 + k), d) = R := hr
      refine ⟨fun q => absurd rfl q, fun _ => ?_⟩
      rw [show (100 : Int32) = nI 100 from rfl, nI_add]
      exact fin _ _ _ (by omega) (by omega) hr
end RDG
