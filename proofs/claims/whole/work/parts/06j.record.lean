def mk5 (m : Sg) (k : Nat) : Nat → Bool
  | 0 => true
  | i + 1 => mk5 m k i && decide (20 ≤ (vl m k i).toInt)
def cln (m : Sg) : Option Nat → Bool
  | none => false
  | some k => mk5 m k 5
def may (m : Sg) (q n : Nat) : Bool := cln m (lst m 2 q n) && hs m q n
def rln (m : Sg) (q n : Nat) : Int32 := match lst m 0 q n with
  | none => 0
  | some k => vl m k 0
def lgr (m : Sg) (n q b : Nat) : Bool := match lst m 0 q n, lst m 0 b n with
  | some k, some l => decide ((vl m l 0).toInt < (vl m k 0).toInt) || (decide ((vl m k 0).toInt = (vl m l 0).toInt) && decide (k < l))
  | _, _ => false
def lgo (m : Sg) (n q : Nat) : Option Nat → Bool
  | none => true
  | some b => lgr m n q b
def rj (m : Sg) (n : Nat) : Nat → Option Nat
  | 0 => none
  | q + 1 => if may m q n = true ∧ m.1 3 < rln m q n ∧ lgo m n q (rj m n q) = true then some q else rj m n q
theorem rj_lt {m : Sg} {n : Nat} : ∀ {k q : Nat}, rj m n k = some q → q < k ∧ may m q n = true ∧ m.1 3 < rln m q n
  | 0, q, h => by cases h
  | k + 1, q, h => by
    unfold rj at h
    split at h
    · rename_i hc
      cases h
      exact ⟨by omega, hc.1, hc.2.1⟩
    · have := rj_lt h
      exact ⟨by omega, this.2⟩
/-- the hill's record put right by what is known -/
def kr (m : Sg) : Sg := match rj m (nE m) 48 with
  | none => m
  | some q => sS (sS m 3 (rln m q (nE m))) 4 (nI (q % 24))
def recR (m : Sg) (w : Int32) : Int32 := match rj m (nE m) 48 with
  | none => if 0 ≤ m.1 3 then (if w = 0 then m.1 3 else m.1 4) else -10000
  | some q => if w = 0 then rln m q (nE m) else nI (q % 24)
def sp (m : Sg) (n j : Nat) : Int32 := if on m n j then tb_SEASON_ROW (ct (be m n j) 24) else 0
def sea (m : Sg) (n : Nat) : Nat → Nat → Int32
  | 0 => m.2 19
  | j + 1 => upd (sea m n j) j (sea m n j j + sp m n j)
def clM (m : Sg) : Sg := sS (sS (kr (sR m 19 (sea m (nE m) (nJ m)))) 11 0) 2 (m.1 2 + 1)
section REC
variable {m z : Sg} {n : Nat}
theorem may_on {q : Nat} (h : may m q n = true) : ∃ k, lst m 0 q n = some k := by
  unfold may at h
  rw [Bool.and_eq_true] at h
  exact hs_lst h.2
theorem e_mayBe {post : Int32 → Sg → Prop} (hI : iv m) (hC : Cr m z) (hn : n ≤ nE m) (hK : Kn m n z) (q : Nat) (hq : q < 48) (h : post (b2 (may m q n)) z) : pX3_mayBeRecord (nI q) z post := by
  unfold pX3_mayBeRecord pX3_mayBeRecord_b19
  refine e_countingOf hK 2 q (by omega) hq ?_
  unfold may at h
  cases hl : lst m 2 q n with
  | none =>
    rw [hl] at h
    exact ⟨fun _ => h, fun c => absurd (show enc none < 0 by decide) c⟩
  | some k =>
    rw [hl] at h
    have hk := kn_k hI hn hl
    refine ⟨fun c => absurd c (enc_nneg hk), fun _ => e_hasPoints hI hC hn hK q hq ?_⟩
    cases hb : hs m q n with
    | false =>
      rw [hb, Bool.and_false] at h
      exact ⟨fun c => absurd rfl c, fun _ => h⟩
    | true =>
      rw [hb, Bool.and_true] at h
      refine ⟨fun _ => ?_, fun c => absurd c (by decide)⟩
      unfold pX3_mayBeRecord_l23
      show lp _ (nI k, 0) z
      refine lp_intro (fun (a : Int32 × Int32) (w : Sg) => w = z ∧ a.1 = nI k ∧ ∃ i : Nat, i ≤ 5 ∧ a.2 = nI i ∧ mk5 m k i = true) (fun a _ => 5 - a.2.toNatClampNeg) ?_ _ _ ⟨rfl, rfl, 0, by omega, rfl, rfl⟩
      rintro K ⟨a, b⟩ w ⟨rfl, ha, i, hi, hb, hm⟩ ih
      simp only at ha hb ih ⊢
      subst ha hb
      have e := q_nI (n := i) (by omega)
      have e1 := q_nI (n := i + 1) (by omega)
      unfold pX3_mayBeRecord_b23
      refine ⟨fun c => ?_, fun c => ?_⟩
      · simp only [q_le, e, Int32.reduceToInt] at c
        have : i = 5 := by omega
        subst this
        have h : post (b2 (mk5 m k 5)) w := h
        rw [hm] at h
        exact h
      · simp only [q_le, e, Int32.reduceToInt] at c
        refine e_val hC k i hk (by omega) ⟨fun d => ?_, fun d => ?_⟩
        · simp only [q_le, Int32.reduceToInt] at d
          exact ih _ _ ⟨rfl, rfl, i + 1, by omega, nI_1 i, by simp [mk5, hm, d]⟩ (by simp only [nI_1, q_cl e, q_cl e1]; omega)
        · simp only [q_le, Int32.reduceToInt] at d
          have key : ∀ j, i < j → mk5 m k j = false := by
            intro j hj
            induction j with
            | zero => omega
            | succ j ihj =>
              unfold mk5
              by_cases e : i = j
              · subst e; simp [d]
              · rw [ihj (by omega)]; rfl
          have h : post (b2 (mk5 m k 5)) w := h
          rw [key 5 (by omega)] at h
          exact h
theorem e_lengthOf {post : Int32 → Sg → Prop} (hI : iv m) (hC : Cr m z) (hn : n ≤ nE m) (hK : Kn m n z) (q : Nat) (hq : q < 48) (hm : may m q n = true) (h : post (rln m q n) z) : pX3_lengthOf (nI q) z post := by
  unfold pX3_lengthOf
  refine e_countingOf hK 0 q (by omega) hq ?_
  obtain ⟨k, hl⟩ := may_on hm
  unfold rln at h
  rw [hl] at h ⊢
  exact e_val hC k 0 (kn_k hI hn hl) (by omega) h
/-- a reading's length is in its bounds -/
theorem rd_bd (hI : iv m) (hn : n ≤ nE m) {q k : Nat} (hq : q < 48) (hl : lst m 0 q n = some k) : 0 ≤ (vl m k 0).toInt ∧ (vl m k 0).toInt ≤ 600 := by
  have h1 := lst_lt hl
  obtain ⟨s, q', hs, hq', -, e3, e4, e5⟩ := hI.2.2.2.2.2.2.1 k (by omega)
  have h3 := (lst_is hl).1
  rw [e3] at h3
  have := (nI_eq (a := s) (b := 0) (by omega) (by omega)).mp h3
  exact (e5.1 this).1
theorem e_isLonger {post : Int32 → Sg → Prop} (hI : iv m) (hC : Cr m z) (hn : n ≤ nE m) (hK : Kn m n z) (q b : Nat) (hq : q < 48) (hb : b < 48) (hm : may m q n = true) (hm2 : may m b n = true) (h : post (b2 (lgr m n q b)) z) : pX3_isLonger (nI q) (nI b) z post := by
  obtain ⟨k, hl⟩ := may_on hm
  obtain ⟨l, hl2⟩ := may_on hm2
  have bk := rd_bd hI hn hq hl
  have bl := rd_bd hI hn hb hl2
  have lk := kn_k hI hn hl
  have ll := kn_k hI hn hl2
  unfold pX3_isLonger pX3_isLonger_b35 pX3_isLonger_b39 pX3_isLonger_b40
  refine e_lengthOf hI hC hn hK q hq hm (e_lengthOf hI hC hn hK b hb hm2 fun v hv => ?_)
  unfold rln at hv
  unfold lgr at h
  rw [hl, hl2] at hv h
  simp only at hv h
  have ev : v.toInt = (vl m k 0).toInt - (vl m l 0).toInt := by
    rw [hv]
    obtain ⟨a, ha, ha2⟩ := q_nn bk.1
    obtain ⟨c, hc, hc2⟩ := q_nn bl.1
    rw [ha, hc, pk_sub_toInt (by omega) (by omega), ← ha, ← hc]
    omega
  refine ⟨fun c => ⟨Or.inr rfl, ?_⟩, fun c => ⟨fun d => ⟨Or.inl rfl, ?_⟩, fun d => ?_⟩⟩
  · simp only [q_lt, ev, Int32.reduceToInt] at c
    rw [show decide ((vl m l 0).toInt < (vl m k 0).toInt) = true by simp; omega] at h
    exact h
  · simp only [q_lt, q_eq, ev, Int32.reduceToInt] at c d
    rw [show decide ((vl m l 0).toInt < (vl m k 0).toInt) = false by simp; omega, show decide ((vl m k 0).toInt = (vl m l 0).toInt) = false by simp; omega] at h
    exact h
  · simp only [q_lt, q_eq, ev, Int32.reduceToInt] at c d
    rw [show decide ((vl m l 0).toInt < (vl m k 0).toInt) = false by simp; omega, show decide ((vl m k 0).toInt = (vl m l 0).toInt) = true by simp; omega] at h
    refine e_countingOf hK 0 q (by omega) hq (e_countingOf hK 0 b (by omega) hb ?_)
    rw [hl, hl2]
    have ek := q_nI (n := k) (by omega)
    have el := q_nI (n := l) (by omega)
    refine ⟨fun f => ⟨Or.inl rfl, ?_⟩, fun f => ⟨Or.inr rfl, ?_⟩⟩
    · simp only [enc, q_le, ek, el] at f
      rw [show decide (k < l) = false by simp; omega] at h
      exact h
    · simp only [enc, q_le, ek, el] at f
      rw [show decide (k < l) = true by simp; omega] at h
      exact h
theorem e_recordJump {post : Int32 → Sg → Prop} (hI : iv m) (hC : Cr m z) (h : ∀ f, Kn m (nE m) (sR z 7 f) → post (enc (rj m (nE m) 48)) (sR z 7 f)) : pX4_recordJump z post := by
  unfold pX4_recordJump
  rw [hC.s 11, hI.2.2.1.1]
  refine e_know hI hC (nE m) (Nat.le_refl _) fun f hf => ?_
  have hC1 := hC.tR 7 f
  have hp := h f hf
  generalize sR z 7 f = u at *
  unfold pX4_recordJump_l21
  refine lp_intro (fun (a : Int32 × Int32) (w : Sg) => w = u ∧ ∃ q : Nat, q ≤ 48 ∧ a.2 = nI q ∧ a.1 = enc (rj m (nE m) q)) (fun a _ => 48 - a.2.toNatClampNeg) ?_ _ _ ⟨rfl, 0, by omega, rfl, rfl⟩
  rintro K ⟨a, b⟩ w ⟨rfl, q, hq, hb, ha⟩ ih
  simp only at ha hb ih ⊢
  subst ha hb
  have e := q_nI (n := q) (by omega)
  have e1 := q_nI (n := q + 1) (by omega)
  unfold pX4_recordJump_b21 pX4_recordJump_b71 pX4_recordJump_b69 pX4_recordJump_b71
  refine ⟨fun c => ?_, fun c => ?_⟩
  · simp only [q_le, e, Int32.reduceToInt] at c
    have : q = 48 := by omega
    subst this
    exact hp
  · simp only [q_le, e, Int32.reduceToInt] at c
    have hm : 48 - (nI q + 1).toNatClampNeg < 48 - (nI q).toNatClampNeg := by simp only [nI_1, q_cl e, q_cl e1]; omega
    have no : ¬ (may m q (nE m) = true ∧ m.1 3 < rln m q (nE m) ∧ lgo m (nE m) q (rj m (nE m) q) = true) → K (enc (rj m (nE m) q), nI q + 1) w := fun hc =>
      ih _ _ ⟨rfl, q + 1, by omega, nI_1 q, by show enc _ = enc (rj m (nE m) (q + 1)); rw [show rj m (nE m) (q + 1) = rj m (nE m) q from if_neg hc]⟩ hm
    have yes : (may m q (nE m) = true ∧ m.1 3 < rln m q (nE m) ∧ lgo m (nE m) q (rj m (nE m) q) = true) → K (nI q, nI q + 1) w := fun hc =>
      ih _ _ ⟨rfl, q + 1, by omega, nI_1 q, by show nI q = enc (rj m (nE m) (q + 1)); rw [show rj m (nE m) (q + 1) = some q from if_pos hc]; rfl⟩ hm
    refine e_mayBe hI hC1 (Nat.le_refl _) hf q (by omega) ⟨fun c1 => no ?_, fun c1 => ?_⟩
    · rintro ⟨h1, -⟩
      rw [h1] at c1
      exact absurd c1 (by decide)
    · have hmay : may m q (nE m) = true := by cases hb : may m q (nE m) with
        | true => rfl
        | false => rw [hb] at c1; exact absurd rfl c1
      refine e_lengthOf hI hC1 (Nat.le_refl _) hf q (by omega) hmay ?_
      rw [hC1.s 3]
      refine ⟨fun c2 => no (fun hc => Int32.not_lt.mpr c2 hc.2.1), fun c2 => ?_⟩
      have hlt := Int32.not_le.mp c2
      cases hr : rj m (nE m) q with
      | none =>
        rw [hr] at no yes
        exact ⟨fun _ => yes ⟨hmay, hlt, rfl⟩, fun c => absurd (show enc none < 0 by decide) c⟩
      | some b =>
        have hbl := rj_lt hr
        rw [hr] at no yes
        refine ⟨fun c => absurd c (nI_pos (by omega)), fun _ => e_isLonger hI hC1 (Nat.le_refl _) hf q b (by omega) (by omega) hmay hbl.2.1 ⟨fun c3 => no ?_, fun c3 => yes ?_⟩⟩
        · rintro ⟨-, -, h3⟩
          have h3 : lgr m (nE m) q b = true := h3
          rw [h3] at c3
          exact absurd c3 (by decide)
        · refine ⟨hmay, hlt, ?_⟩
          show lgr m (nE m) q b = true
          cases hb : lgr m (nE m) q b with
          | true => rfl
          | false => rw [hb] at c3; exact absurd rfl c3
theorem jumperOf_eq {q : Nat} (hq : q < 48) : nI q - nI q / 24 * 24 = nI (q % 24) := pk_rem (a := q) (d := 24) (by omega) (by omega) (by omega)
theorem c_record {post : Int32 → Sg → Prop} (hI : iv m) (hC : Cr m z) (w : Int32) (h1 : w = 0 ∨ w = 1 → ∀ z', Cr m z' → post (recR m w) z') (h0 : ¬ (w = 0 ∨ w = 1) → post (-10000) z) : pX4_record w z post := by
  have key : w = 0 ∨ w = 1 → pX4_record_b13 post w z := fun hw => by
    unfold pX4_record_b13 pX4_record_b41 pX4_record_b68 pX4_jumperOf
    refine e_recordJump hI hC fun f hf => ?_
    have hC1 := hC.tR 7 f
    have hp := h1 hw _ hC1
    unfold recR at hp
    rw [hC1.s 3, hC1.s 4]
    cases hr : rj m (nE m) 48 with
    | none =>
      rw [hr] at hp
      simp only at hp
      refine ⟨fun _ => ⟨fun c => ?_, fun c => ?_⟩, fun c => absurd (show enc none < 0 by decide) c⟩
      · rw [if_pos c] at hp
        exact ⟨fun d => by rw [if_neg d] at hp; exact hp, fun d => by rw [if_pos d] at hp; exact hp⟩
      · rw [if_neg c] at hp; exact hp
    | some q =>
      rw [hr] at hp
      simp only at hp
      have hq := rj_lt hr
      refine ⟨fun c => absurd c (nI_pos (by omega)), fun _ => ⟨fun d => ?_, fun d => e_lengthOf hI hC1 (Nat.le_refl _) hf q (by omega) hq.2.1 ?_⟩⟩
      · rw [if_neg d] at hp
        rw [show enc (some q) = nI q from rfl, jumperOf_eq (by omega)]
        exact hp
      · rw [if_pos d] at hp; exact hp
  unfold pX4_record
  exact ⟨fun c => key (Or.inl c), fun c => ⟨fun d => key (Or.inr d), fun d => h0 (fun q => q.elim c d)⟩⟩
theorem e_keepRecord {post : Sg → Prop} (hI : iv m) (hC : Cr m z) (h : ∀ z', Cr (kr m) z' → z'.1 12 = z.1 12 → post z') : pX4_keepRecord z post := by
  unfold pX4_keepRecord pX4_keepRecord_b29 pX4_jumperOf
  refine e_recordJump hI hC fun f hf => ?_
  have hC1 := hC.tR 7 f
  unfold kr at h
  cases hr : rj m (nE m) 48 with
  | none =>
    rw [hr] at h
    exact ⟨fun _ => h _ hC1 rfl, fun c => absurd (show enc none < 0 by decide) c⟩
  | some q =>
    rw [hr] at h
    simp only at h
    have hq := rj_lt hr
    refine ⟨fun c => absurd c (nI_pos (by omega)), fun _ => e_lengthOf hI hC1 (Nat.le_refl _) hf q (by omega) hq.2.1 ?_⟩
    rw [show enc (some q) = nI q from rfl, jumperOf_eq (by omega)]
    exact h _ ((hC1.uS 3 _).uS 4 _) rfl
theorem be_lt {j : Nat} (hj : j < 24) (h : on m n j = true) : ct (be m n j) 24 < 24 := by
  have h1 := pos_lt hj h
  have h2 := ct_le (on m n) 24
  unfold pos at h1
  omega
theorem e_seasonPoints {post : Int32 → Sg → Prop} (j : Nat) (hj : j < 24) (h : post (sp m n j) z) : pX4_seasonPoints (pl m n j) z post := by
  unfold pX4_seasonPoints pX4_seasonPoints_b23 pX4_seasonPoints_b24
  unfold sp at h
  unfold pl
  cases ho : on m n j with
  | false =>
    rw [ho] at h
    exact ⟨fun _ => h, fun c => absurd (show (0 : Int32) < 1 by decide) c⟩
  | true =>
    rw [ho] at h
    simp only [if_true] at h ⊢
    have hb := be_lt hj ho
    have e := q_nI (n := 1 + ct (be m n j) 24) (by omega)
    refine ⟨fun c => ?_, fun _ => ⟨fun c => ?_, fun _ => ?_⟩⟩
    · simp only [q_lt, e, Int32.reduceToInt] at c; omega
    · simp only [q_lt, e, Int32.reduceToInt] at c; omega
    · have es : nI (1 + ct (be m n j) 24) - 1 = nI (ct (be m n j) 24) := by
        rw [show (1 : Int32) = nI 1 from rfl, pk_sub (by omega), Nat.add_sub_cancel_left]
      have e2 := q_nI (n := ct (be m n j) 24) (by omega)
      rw [es, q_cl e2]
      exact ⟨q_in e2 hb, h⟩
theorem iv_R (hI : iv m) (f : Nat → Int32) : iv (sR m 19 f) := by
  have e0 : ∀ k, k ≠ 19 → (sR m 19 f).2 k = m.2 k := fun k hk => sR_ne _ _ _ _ hk
  refine ⟨hI.1, hI.2.1, hI.2.2.1, hI.2.2.2.1, ?_, ?_, ?_, hI.2.2.2.2.2.2.2⟩
  · rw [e0 1 (by decide)]; exact hI.2.2.2.2.1
  · rw [e0 6 (by decide)]; exact hI.2.2.2.2.2.1
  · intro k hk
    obtain ⟨s, q, h1, h2, h3, h4, h5, h6⟩ := hI.2.2.2.2.2.2.1 k hk
    have hv : ∀ i, vl (sR m 19 f) k i = vl m k i := fun i => by unfold vl; rw [e0 5 (by decide)]
    refine ⟨s, q, h1, h2, h3, by rw [e0 3 (by decide)]; exact h4, by rw [e0 4 (by decide)]; exact h5, ?_⟩
    unfold eOk
    simp only [hv]
    exact h6
theorem c_close {post : Int32 → Sg → Prop} (hI : iv m) (hC : Cr m z) (h0 : ct (on m (nE m)) 24 = 0 → ∀ z', Cr m z' → post (-10000) z')
    (h1 : ¬ ct (on m (nE m)) 24 = 0 → ∀ z', Cr (clM m) z' → post (nI (ct (on m (nE m)) 24)) z') : pX4_close z post := by
  have hJ := hI.2.1.2
  have hct := ct_le (on m (nE m)) 24
  unfold pX4_close
  rw [hC.s 11, hI.2.2.1.1, hC.s 1, hI.2.1.1]
  refine e_draw hI hC (Nat.le_refl _) fun u hB => ?_
  have hL := hB.2.2.2.2.2.2.1
  rw [hL]
  refine ⟨fun c => ?_, fun c => h0 ?_ _ hB.1.1⟩
  · have hne : ¬ ct (on m (nE m)) 24 = 0 := fun q => c (by rw [q]; rfl)
    have fin : ∀ v, Cr (sR m 19 (sea m (nE m) (nJ m))) v → v.1 12 = nI (ct (on m (nE m)) 24) → pX4_close_b81 post v := fun v hv hv12 => by
      unfold pX4_close_b81
      refine e_keepRecord (iv_R hI _) hv fun x hx hx12 => ?_
      rw [hx12, hv12]
      have := h1 hne (sS (sS x 11 0) 2 (x.1 2 + 1)) (by
        have h2 : x.1 2 = m.1 2 := by
          rw [hx.s 2]
          unfold kr
          split <;> rfl
        rw [h2]
        exact (hx.uS 11 0).uS 2 _)
      exact this
    unfold pX4_close_l41
    refine lp_intro (fun (a : Int32) (w : Sg) => ∃ j : Nat, j ≤ nJ m ∧ a = nI j ∧ Cr (sR m 19 (sea m (nE m) j)) w ∧ w.1 12 = nI (ct (on m (nE m)) 24) ∧ ∀ i, i < 24 → w.2 11 i = pl m (nE m) i) (fun a _ => 24 - a.toNatClampNeg) ?_ _ _ ⟨0, by omega, rfl, ?_, hL, hB.2.2.2.2.1⟩
    · rintro K a w ⟨j, hj, rfl, hCw, h12, hP⟩ ih
      have e := q_nI (n := j) (by omega)
      have e1 := q_nI (n := j + 1) (by omega)
      have eJ : (w.1 1).toInt = (nJ m : Int) := by rw [hCw.s 1]; exact (iv_J hI (Cr.rf m) : (m.1 1).toInt = (nJ m : Int))
      unfold pX4_close_b41
      refine ⟨fun c => ?_, fun c => ⟨fun c2 => ?_, fun _ => ?_⟩⟩
      · simp only [q_le, e, eJ] at c
        have : j = nJ m := by omega
        subst this
        exact fin w hCw h12
      · simp only [q_le, e, eJ] at c
        simp only [q_le, e, Int32.reduceToInt] at c2
        omega
      · simp only [q_le, e, eJ] at c
        refine ⟨q_in e (by omega), e_placeOf hP j (by omega) (e_seasonPoints j (by omega) ⟨q_in e (by omega), ?_⟩)⟩
        have g : gA w 19 (nI j) = sea m (nE m) j j := by unfold gA; rw [q_cl e, hCw.a 19, sR_at]
        rw [g]
        refine ih _ _ ⟨j + 1, by omega, nI_1 j, ?_, h12, fun i hi => ?_⟩ (by simp only [nI_1, q_cl e, q_cl e1]; omega)
        · have := hCw.uA 19 (nI j) (sea m (nE m) j j + sp m (nE m) j)
          unfold sA at this ⊢
          rw [q_cl e, sR_at, sR_sR] at this
          rw [q_cl e]
          exact this
        · rw [sA_ne _ _ _ _ _ (by decide)]; exact hP i hi
    · show Cr (sR m 19 (m.2 19)) u
      rw [sR_self]
      exact hB.1.1
  · rw [show (0 : Int32) = nI 0 from rfl, nI_eq (by omega) (by omega)] at c
    exact c
end REC
