theorem b255 : ∀ j : Fin 32, (255#32).getLsbD j.val = decide (j.val < 8) := by decide
theorem bb (b : BitVec 32) (k : Nat) (hk : k ≤ 24) : ((b.sshiftRight k).setWidth 8).signExtend 32 &&& 255#32 = (b >>> k) &&& 255#32 := by
  ext i hi
  have h255 : (255#32)[i] = decide (i < 8) := b255 ⟨i, hi⟩
  simp only [BitVec.getElem_and, h255]
  by_cases c : i < 8
  · simp [c, BitVec.getElem_signExtend, BitVec.getElem_setWidth, BitVec.getElem_ushiftRight, BitVec.getLsbD_sshiftRight]
    rw [if_pos (by omega), decide_eq_false (by omega)]
    rfl
  · simp [c]

theorem s24 (w : Int32) : (w >>> ((24 : Int32) &&& 31)).toBitVec = w.toBitVec.sshiftRight 24 := by
  simp only [Int32.toBitVec_shiftRight]
  rfl
theorem u24 (w : Int32) : (w.toUInt32 >>> ((24 : Int32).toUInt32 &&& Int32.toUInt32 31)).toInt32.toBitVec = w.toBitVec >>> 24 := by
  show (w.toUInt32 >>> ((24 : Int32).toUInt32 &&& Int32.toUInt32 31)).toBitVec = _
  rw [UInt32.toBitVec_shiftRight]
  rfl
theorem i24 (w : Int32) : ((w >>> ((24 : Int32) &&& 31)).toInt8.toInt32 &&& 255) = ((w.toUInt32 >>> ((24 : Int32).toUInt32 &&& Int32.toUInt32 31)).toInt32) &&& 255 := by
  apply Int32.toBitVec_inj.mp
  rw [Int32.toBitVec_and, Int32.toBitVec_and, u24]
  rw [show (w >>> ((24 : Int32) &&& 31)).toInt8.toInt32.toBitVec = BitVec.signExtend 32 (BitVec.signExtend 8 (w >>> ((24 : Int32) &&& 31)).toBitVec) from rfl, BitVec.signExtend_eq_setWidth_of_le _ (by omega : 8 ≤ 32), s24]
  exact bb w.toBitVec 24 (by omega)

theorem s16 (w : Int32) : (w >>> ((16 : Int32) &&& 31)).toBitVec = w.toBitVec.sshiftRight 16 := by
  simp only [Int32.toBitVec_shiftRight]
  rfl
theorem u16 (w : Int32) : (w.toUInt32 >>> ((16 : Int32).toUInt32 &&& Int32.toUInt32 31)).toInt32.toBitVec = w.toBitVec >>> 16 := by
  show (w.toUInt32 >>> ((16 : Int32).toUInt32 &&& Int32.toUInt32 31)).toBitVec = _
  rw [UInt32.toBitVec_shiftRight]
  rfl
theorem i16 (w : Int32) : ((w >>> ((16 : Int32) &&& 31)).toInt8.toInt32 &&& 255) = ((w.toUInt32 >>> ((16 : Int32).toUInt32 &&& Int32.toUInt32 31)).toInt32) &&& 255 := by
  apply Int32.toBitVec_inj.mp
  rw [Int32.toBitVec_and, Int32.toBitVec_and, u16]
  rw [show (w >>> ((16 : Int32) &&& 31)).toInt8.toInt32.toBitVec = BitVec.signExtend 32 (BitVec.signExtend 8 (w >>> ((16 : Int32) &&& 31)).toBitVec) from rfl, BitVec.signExtend_eq_setWidth_of_le _ (by omega : 8 ≤ 32), s16]
  exact bb w.toBitVec 16 (by omega)

theorem s08 (w : Int32) : (w >>> ((8 : Int32) &&& 31)).toBitVec = w.toBitVec.sshiftRight 8 := by
  simp only [Int32.toBitVec_shiftRight]
  rfl
theorem u08 (w : Int32) : (w.toUInt32 >>> ((8 : Int32).toUInt32 &&& Int32.toUInt32 31)).toInt32.toBitVec = w.toBitVec >>> 8 := by
  show (w.toUInt32 >>> ((8 : Int32).toUInt32 &&& Int32.toUInt32 31)).toBitVec = _
  rw [UInt32.toBitVec_shiftRight]
  rfl
theorem i08 (w : Int32) : ((w >>> ((8 : Int32) &&& 31)).toInt8.toInt32 &&& 255) = ((w.toUInt32 >>> ((8 : Int32).toUInt32 &&& Int32.toUInt32 31)).toInt32) &&& 255 := by
  apply Int32.toBitVec_inj.mp
  rw [Int32.toBitVec_and, Int32.toBitVec_and, u08]
  rw [show (w >>> ((8 : Int32) &&& 31)).toInt8.toInt32.toBitVec = BitVec.signExtend 32 (BitVec.signExtend 8 (w >>> ((8 : Int32) &&& 31)).toBitVec) from rfl, BitVec.signExtend_eq_setWidth_of_le _ (by omega : 8 ≤ 32), s08]
  exact bb w.toBitVec 8 (by omega)

theorem s00 (w : Int32) : (w >>> ((0 : Int32) &&& 31)).toBitVec = w.toBitVec.sshiftRight 0 := by
  simp only [Int32.toBitVec_shiftRight]
  rfl
theorem u00 (w : Int32) : (w.toUInt32 >>> ((0 : Int32).toUInt32 &&& Int32.toUInt32 31)).toInt32.toBitVec = w.toBitVec >>> 0 := by
  show (w.toUInt32 >>> ((0 : Int32).toUInt32 &&& Int32.toUInt32 31)).toBitVec = _
  rw [UInt32.toBitVec_shiftRight]
  rfl
theorem i00 (w : Int32) : ((w >>> ((0 : Int32) &&& 31)).toInt8.toInt32 &&& 255) = ((w.toUInt32 >>> ((0 : Int32).toUInt32 &&& Int32.toUInt32 31)).toInt32) &&& 255 := by
  apply Int32.toBitVec_inj.mp
  rw [Int32.toBitVec_and, Int32.toBitVec_and, u00]
  rw [show (w >>> ((0 : Int32) &&& 31)).toInt8.toInt32.toBitVec = BitVec.signExtend 32 (BitVec.signExtend 8 (w >>> ((0 : Int32) &&& 31)).toBitVec) from rfl, BitVec.signExtend_eq_setWidth_of_le _ (by omega : 8 ≤ 32), s00]
  exact bb w.toBitVec 0 (by omega)

theorem nar_byte (x : Int32) : vp_nar .byte x = x.toInt8.toInt32 := rfl
theorem nar_b8 (x : Int32) : vp_nar .byte (x.toInt8.toInt32) = x.toInt8.toInt32 := by rw [nar_byte, Int8.toInt8_toInt32]
/-- one byte more on the tape -/
def p1 (m : Sg) (w s : Int32) : Sg := sS (sA m 0 (m.1 0) (((w.toUInt32 >>> (s.toUInt32 &&& Int32.toUInt32 31)).toInt32) &&& 255)) 0 (m.1 0 + 1)
def pq (m : Sg) (w : Int32) : Nat → Sg
  | 0 => m
  | j + 1 => p1 (pq m w j) w (24 - 8 * nI j)
def feedM (m : Sg) (a b c d e : Int32) : Sg := pq (pq (pq (pq (pq m a 4) b 4) c 4) d 4) e 4
abbrev okFeed (m : Sg) : Prop := nT m + 20 ≤ 60
section FEE
variable {m y z : Sg}
theorem p1_T (w s : Int32) (h : m.1 0 = nI (nT m)) (hT : nT m ≤ 60) : (p1 m w s).1 0 = nI (nT m + 1) ∧ nT (p1 m w s) = nT m + 1 := by
  have e : (p1 m w s).1 0 = nI (nT m + 1) := by unfold p1; rw [sS_at, h, nI_1]
  refine ⟨e, ?_⟩
  show ((p1 m w s).1 0).toNatClampNeg = _
  rw [e]
  exact q_cl (q_nI (by omega))
theorem pq_T (w : Int32) (h : m.1 0 = nI (nT m)) : ∀ {j : Nat}, nT m + j ≤ 60 → (pq m w j).1 0 = nI (nT m + j) ∧ nT (pq m w j) = nT m + j
  | 0, _ => ⟨h, rfl⟩
  | j + 1, hj => by
    obtain ⟨h1, h2⟩ := pq_T w h (j := j) (by omega)
    have := p1_T (m := pq m w j) w (24 - 8 * nI j) (by rw [h2]; exact h1) (by omega)
    rw [h2] at this
    exact this
/-- what feeding leaves -/
def sameT (m m' : Sg) : Prop := (∀ k, k ≠ 0 → m'.1 k = m.1 k) ∧ ∀ k, k ≠ 0 → m'.2 k = m.2 k
theorem sameT.rf : sameT m m := ⟨fun _ _ => rfl, fun _ _ => rfl⟩
theorem sameT.tr {a b c : Sg} (h : sameT a b) (g : sameT b c) : sameT a c := ⟨fun k hk => (g.1 k hk).trans (h.1 k hk), fun k hk => (g.2 k hk).trans (h.2 k hk)⟩
theorem p1_same (w s : Int32) : sameT m (p1 m w s) := ⟨fun k hk => by unfold p1; rw [sS_ne _ _ _ _ hk]; rfl, fun k hk => by unfold p1; rw [sS_a, sA_ne _ _ _ _ _ hk]⟩
theorem pq_same (w : Int32) : ∀ j : Nat, sameT m (pq m w j)
  | 0 => sameT.rf
  | j + 1 => (pq_same w j).tr (p1_same w _)
theorem c_tapeInt {post : Sg → Prop} (h0 : m.1 0 = nI (nT m)) (hT : nT m + 4 ≤ 60) (hC : Cr m z) (w : Int32) (h : ∀ z', Cr (pq m w 4) z' → post z') : pX4_tapeInt w z post := by
  unfold pX4_tapeInt pX4_tapeInt_l3
  refine lp_intro (fun (a : Int32 × Int32) (u : Sg) => a.1 = w ∧ ∃ j : Nat, j ≤ 4 ∧ a.2 = 24 - 8 * nI j ∧ Cr (pq m w j) u) (fun a _ => (a.2.toInt + 8).toNat) ?_ _ _ ⟨rfl, 0, by omega, rfl, hC⟩
  rintro K ⟨a, b⟩ u ⟨ha, j, hj, hb, hu⟩ ih
  simp only at ha hb ih ⊢
  subst ha hb
  obtain ⟨t1, -⟩ := pq_T a h0 (j := j) (by omega)
  have et := q_nI (n := nT m + j) (by omega)
  have sv : ∀ j, j ≤ 4 → (24 - 8 * nI j).toInt = 24 - 8 * (j : Int) := fun j hj => by
    have : j = 0 ∨ j = 1 ∨ j = 2 ∨ j = 3 ∨ j = 4 := by omega
    rcases this with rfl | rfl | rfl | rfl | rfl <;> decide
  have es := sv j hj
  unfold pX4_tapeInt_b3 pX4_tapeInt_b52
  refine ⟨fun c => ?_, fun c => ?_⟩ <;> simp only [q_lt, es, Int32.reduceToInt] at c
  · have : j = 4 := by omega
    subst this
    exact h _ hu
  · have hj4 : j < 4 := by omega
    have u0 : u.1 0 = nI (nT m + j) := by rw [hu.s 0, t1]
    refine ⟨fun c1 => ?_, fun _ => ⟨fun c1 => ?_, fun _ v hv => ⟨?_, ?_⟩⟩⟩
    · rw [u0] at c1; simp only [q_lt, et, Int32.reduceToInt] at c1; omega
    · rw [u0] at c1; simp only [q_le, et, Int32.reduceToInt] at c1; omega
    · rw [u0]; exact q_in et (by omega)
    · have e8 : (24 - 8 * nI j) + (-8) = 24 - 8 * nI (j + 1) := by rw [← nI_1]; grind
      rw [e8]
      refine ih _ _ ⟨rfl, j + 1, by omega, rfl, ?_⟩ (by rw [sv (j + 1) (by omega), es]; omega)
      show Cr (p1 (pq m a j) a (24 - 8 * nI j)) _
      unfold p1
      rw [hv, hu.s 0]
      exact (hu.uA 0 _ _).uS 0 _
theorem Mr_p1 (hM : Mr m y) (h0 : m.1 0 = nI (nT m)) (hT : nT m < 60) (w s v : Int32) (hv : vp_nar .byte v &&& 255 = ((w.toUInt32 >>> (s.toUInt32 &&& Int32.toUInt32 31)).toInt32) &&& 255) : Mr (p1 m w s) (sS (sA y 0 (y.1 0) (vp_nar .byte v)) 0 (y.1 0 + 1)) := by
  obtain ⟨t1, t2⟩ := p1_T w s h0 (by omega)
  have y0 := hM.1.1
  obtain ⟨p, q⟩ := p1_same (m := m) w s
  have hE : nE (p1 m w s) = nE m := by unfold nE; rw [p 11 (by decide)]
  have hv2 : ∀ k i, vl (p1 m w s) k i = vl m k i := fun k i => by unfold vl; rw [q 5 (by decide)]
  refine ⟨⟨?_, ?_, ?_, ?_, ?_⟩, ?_, ?_, ?_, ?_, ?_, ?_, ?_⟩
  · unfold p1; rw [sS_at, sS_at, y0]
  · rw [p 1 (by decide)]; exact hM.1.2.1
  · rw [p 11 (by decide)]; exact hM.1.2.2.1
  · rw [p 2 (by decide)]; exact hM.1.2.2.2.1
  · rw [p 5 (by decide)]; exact hM.1.2.2.2.2
  · rw [p 3 (by decide), p 4 (by decide)]; exact hM.2.1
  · rw [q 1 (by decide)]; exact hM.2.2.1
  · rw [q 18 (by decide)]; exact hM.2.2.2.1
  · rw [q 19 (by decide)]; exact hM.2.2.2.2.1
  · rw [q 6 (by decide)]; exact hM.2.2.2.2.2.1
  · rw [hE]
    simp only [hv2]
    rw [q 3 (by decide), q 4 (by decide)]
    exact hM.2.2.2.2.2.2.1
  · intro i hi
    rw [t2] at hi
    rw [sS_a, sA_at, y0, h0, q_cl (q_nI (n := nT m) (by omega))]
    unfold p1
    rw [sS_a, sA_at, h0, q_cl (q_nI (n := nT m) (by omega))]
    by_cases c : i = nT m
    · subst c
      rw [upd_at, upd_at]
      exact hv
    · rw [upd_ne _ _ _ _ c, upd_ne _ _ _ _ c]
      exact hM.2.2.2.2.2.2.2 i (by omega)
theorem g_push {post : Sg → Prop} (h0 : m.1 0 = nI (nT m)) (hT : nT m + 4 ≤ 60) (hM : Mr m y) (w : Int32) (h : ∀ y', Mr (pq m w 4) y' → post y') : pX5_push w y post := by
  unfold pX5_push pX5_push_l3
  refine lp_intro (fun (a : Int32 × Int32) (u : Sg) => a.1 = w ∧ ∃ j : Nat, j ≤ 4 ∧ a.2 = 24 - 8 * nI j ∧ Mr (pq m w j) u) (fun a _ => (a.2.toInt + 8).toNat) ?_ _ _ ⟨rfl, 0, by omega, rfl, hM⟩
  rintro K ⟨a, b⟩ u ⟨ha, j, hj, hb, hu⟩ ih
  simp only at ha hb ih ⊢
  subst ha hb
  obtain ⟨t1, t2⟩ := pq_T a h0 (j := j) (by omega)
  have et := q_nI (n := nT m + j) (by omega)
  have sv : ∀ j, j ≤ 4 → (24 - 8 * nI j).toInt = 24 - 8 * (j : Int) := fun j hj => by
    have : j = 0 ∨ j = 1 ∨ j = 2 ∨ j = 3 ∨ j = 4 := by omega
    rcases this with rfl | rfl | rfl | rfl | rfl <;> decide
  have es := sv j hj
  unfold pX5_push_b3
  refine ⟨fun c => ?_, fun c => ?_⟩ <;> simp only [q_lt, es, Int32.reduceToInt] at c
  · have : j = 4 := by omega
    subst this
    exact h _ hu
  · have hj4 : j < 4 := by omega
    have u0 : u.1 0 = nI (nT m + j) := by rw [hu.1.1, t1]
    refine fun v hv => ⟨?_, ?_⟩
    · rw [u0]; exact q_in et (by omega)
    · have e8 : (24 - 8 * nI j) + (-8) = 24 - 8 * nI (j + 1) := by rw [← nI_1]; grind
      rw [e8]
      refine ih _ _ ⟨rfl, j + 1, by omega, rfl, ?_⟩ (by rw [sv (j + 1) (by omega), es]; omega)
      show Mr (p1 (pq m a j) a (24 - 8 * nI j)) _
      refine Mr_p1 hu (by rw [t2]; exact t1) (by omega) a _ v ?_
      rw [hv, nar_b8]
      have : j = 0 ∨ j = 1 ∨ j = 2 ∨ j = 3 := by omega
      rcases this with rfl | rfl | rfl | rfl
      · exact i24 a
      · exact i16 a
      · exact i08 a
      · exact i00 a
theorem feed_T (h0 : m.1 0 = nI (nT m)) (hT : nT m + 20 ≤ 60) (a b c d e : Int32) : (feedM m a b c d e).1 0 = nI (nT m + 20) ∧ nT (feedM m a b c d e) = nT m + 20 := by
  obtain ⟨a1, a2⟩ := pq_T a h0 (j := 4) (by omega)
  obtain ⟨b1, b2⟩ := pq_T (m := pq m a 4) b (by rw [a2]; exact a1) (j := 4) (by omega)
  obtain ⟨c1, c2⟩ := pq_T (m := pq (pq m a 4) b 4) c (by rw [b2]; exact b1) (j := 4) (by omega)
  obtain ⟨d1, d2⟩ := pq_T (m := pq (pq (pq m a 4) b 4) c 4) d (by rw [c2]; exact c1) (j := 4) (by omega)
  obtain ⟨e1, e2⟩ := pq_T (m := pq (pq (pq (pq m a 4) b 4) c 4) d 4) e (by rw [d2]; exact d1) (j := 4) (by omega)
  have e3 : nT (pq (pq (pq (pq (pq m a 4) b 4) c 4) d 4) e 4) = nT m + 20 := by omega
  have e4 : (pq (pq (pq (pq (pq m a 4) b 4) c 4) d 4) e 4).1 0 = nI (nT m + 20) := by
    rw [e1, show nT (pq (pq (pq (pq m a 4) b 4) c 4) d 4) + 4 = nT m + 20 by omega]
  exact ⟨e4, e3⟩
theorem iv_feed (hI : iv m) (h : okFeed m) (a b c d e : Int32) : iv (feedM m a b c d e) := by
  obtain ⟨t1, t2⟩ := feed_T hI.1.1 h a b c d e
  have sm : sameT m (feedM m a b c d e) := ((((pq_same a 4).tr (pq_same b 4)).tr (pq_same c 4)).tr (pq_same d 4)).tr (pq_same e 4)
  obtain ⟨p, q⟩ := sm
  have hJ : nJ (feedM m a b c d e) = nJ m := by unfold nJ; rw [p 1 (by decide)]
  have hE : nE (feedM m a b c d e) = nE m := by unfold nE; rw [p 11 (by decide)]
  have hf : nT m + 20 ≤ 60 := h
  refine iv_c hI ⟨by rw [t2]; exact t1, by omega⟩ ⟨by rw [hJ, p 1 (by decide)]; exact hI.2.1.1, by rw [hJ]; exact hI.2.1.2, by omega⟩ ⟨by rw [hE, p 11 (by decide)]; exact hI.2.2.1.1, by omega⟩ ?_ ?_ ?_ ⟨q 3 (by decide), q 4 (by decide), q 5 (by decide)⟩ ?_
  · rw [p 5 (by decide)]; exact hI.2.2.2.1
  · rw [q 1 (by decide)]; exact hI.2.2.2.2.1
  · rw [q 6 (by decide)]; exact hI.2.2.2.2.2.1
  · rw [p 3 (by decide)]; exact hI.2.2.2.2.2.2.2
theorem feed_if {P Q : Prop} (hI : iv m) (x : Int32) (hx : x = m.1 0) (h1 : okFeed m → P) (h0 : ¬ okFeed m → Q) : (x + 20 ≤ (60 : Int32) → P) ∧ (¬ x + 20 ≤ (60 : Int32) → Q) := by
  have h60 := hI.1.2
  have e : (x + 20).toInt = (nT m : Int) + 20 := by
    rw [hx, hI.1.1, show nI (nT m) + 20 = nI (nT m + 20) from nI_add _ 20, q_nI (by omega)]
    omega
  refine ⟨fun c => h1 ?_, fun c => h0 ?_⟩ <;> simp only [q_le, e, Int32.reduceToInt] at c
  · show nT m + 20 ≤ 60
    omega
  · show ¬ nT m + 20 ≤ 60
    omega
theorem c_feed {post : Int32 → Sg → Prop} (hI : iv m) (hC : Cr m z) (a b c d e : Int32) (h1 : okFeed m → ∀ z', Cr (feedM m a b c d e) z' → post (nI (nT m + 20)) z') (h0 : ¬ okFeed m → post (-10000) z) : pX4_feed a b c d e z post := by
  unfold pX4_feed
  refine feed_if hI _ (hC.s 0) (fun hok => ?_) h0
  have hf : nT m + 20 ≤ 60 := hok
  obtain ⟨a1, a2⟩ := pq_T a hI.1.1 (j := 4) (by omega)
  obtain ⟨b1, b2⟩ := pq_T (m := pq m a 4) b (by rw [a2]; exact a1) (j := 4) (by omega)
  obtain ⟨c1, c2⟩ := pq_T (m := pq (pq m a 4) b 4) c (by rw [b2]; exact b1) (j := 4) (by omega)
  obtain ⟨d1, d2⟩ := pq_T (m := pq (pq (pq m a 4) b 4) c 4) d (by rw [c2]; exact c1) (j := 4) (by omega)
  refine c_tapeInt hI.1.1 (by omega) hC a (fun u1 k1 => c_tapeInt (by rw [a2]; exact a1) (by omega) k1 b (fun u2 k2 => c_tapeInt (by rw [b2]; exact b1) (by omega) k2 c (fun u3 k3 => c_tapeInt (by rw [c2]; exact c1) (by omega) k3 d (fun u4 k4 => c_tapeInt (by rw [d2]; exact d1) (by omega) k4 e (fun u5 k5 => ?_)))))
  have := h1 hok u5 k5
  have hx := (feed_T hI.1.1 hf a b c d e).1
  unfold feedM at hx
  rw [k5.s 0, hx]
  exact this
theorem g_feed {post : Int32 → Sg → Prop} (hI : iv m) (hM : Mr m y) (a b c d e : Int32) (h1 : okFeed m → ∀ y', Mr (feedM m a b c d e) y' → post (nI (nT m + 20)) y') (h0 : ¬ okFeed m → post (-10000) y) : pX5_feed a b c d e y post := by
  unfold pX5_feed
  refine feed_if hI _ hM.1.1 (fun hok => ?_) h0
  have hf : nT m + 20 ≤ 60 := hok
  obtain ⟨a1, a2⟩ := pq_T a hI.1.1 (j := 4) (by omega)
  obtain ⟨b1, b2⟩ := pq_T (m := pq m a 4) b (by rw [a2]; exact a1) (j := 4) (by omega)
  obtain ⟨c1, c2⟩ := pq_T (m := pq (pq m a 4) b 4) c (by rw [b2]; exact b1) (j := 4) (by omega)
  obtain ⟨d1, d2⟩ := pq_T (m := pq (pq (pq m a 4) b 4) c 4) d (by rw [c2]; exact c1) (j := 4) (by omega)
  refine g_push hI.1.1 (by omega) hM a (fun u1 k1 => g_push (by rw [a2]; exact a1) (by omega) k1 b (fun u2 k2 => g_push (by rw [b2]; exact b1) (by omega) k2 c (fun u3 k3 => g_push (by rw [c2]; exact c1) (by omega) k3 d (fun u4 k4 => g_push (by rw [d2]; exact d1) (by omega) k4 e (fun u5 k5 => ?_)))))
  have := h1 hok u5 k5
  have hx := (feed_T hI.1.1 hf a b c d e).1
  unfold feedM at hx
  rw [k5.1.1, hx]
  exact this
/-- the rules after a text -/
abbrev rR (m : Sg) (n : Nat) (d : Nat → Int32) : Int32 × (Nat → Int32) := rdm m n (n + 1) none 0 0 0 d
def mRules (m : Sg) (n : Nat) (d : Nat → Int32) : Sg := sS (if (rR m n d).1 = 0 then sR m 1 (va_cpy (rR m n d).2 (m.2 1) 0 0 7) else m) 0 0
abbrev okRules (m : Sg) (n : Int32) : Prop := 0 ≤ n.toInt ∧ n.toInt ≤ (nT m : Int)
theorem first_ok : ∀ i, i < 7 → okV i (tb_FIRST i) := by
  intro i hi
  have : i = 0 ∨ i = 1 ∨ i = 2 ∨ i = 3 ∨ i = 4 ∨ i = 5 ∨ i = 6 := by omega
  rcases this with rfl | rfl | rfl | rfl | rfl | rfl | rfl <;> decide
theorem cpy7 {f g : Nat → Int32} {i : Nat} (hi : i < 7) : va_cpy f g 0 0 7 i = f i := by
  unfold va_cpy
  rw [if_pos ⟨by omega, by omega⟩]
  congr 1
  omega
theorem mRules_s (n : Nat) (d : Nat → Int32) : (∀ k, k ≠ 0 → (mRules m n d).1 k = m.1 k) ∧ ∀ k, k ≠ 1 → (mRules m n d).2 k = m.2 k := by
  unfold mRules
  refine ⟨fun k hk => ?_, fun k hk => ?_⟩
  · rw [sS_ne _ _ _ _ hk]
    split <;> rfl
  · rw [sS_a]
    split
    · rw [sR_ne _ _ _ _ hk]
    · rfl
theorem iv_rules (hI : iv m) (n : Nat) (d : Nat → Int32) (hd : ∀ i, i < 7 → d i = tb_FIRST i) : iv (mRules m n d) := by
  obtain ⟨p, q⟩ := mRules_s (m := m) n d
  have hJ : nJ (mRules m n d) = nJ m := by unfold nJ; rw [p 1 (by decide)]
  have hE : nE (mRules m n d) = nE m := by unfold nE; rw [p 11 (by decide)]
  have t0 : (mRules m n d).1 0 = 0 := sS_at _ _ _
  have tT : nT (mRules m n d) = 0 := by unfold nT; rw [t0]; rfl
  refine iv_c hI ⟨by rw [tT, t0]; rfl, by omega⟩ ⟨by rw [hJ, p 1 (by decide)]; exact hI.2.1.1, by rw [hJ]; exact hI.2.1.2, by omega⟩ ⟨by rw [hE, p 11 (by decide)]; exact hI.2.2.1.1, by omega⟩ ?_ ?_ ?_ ⟨q 3 (by decide), q 4 (by decide), q 5 (by decide)⟩ ?_
  · rw [p 5 (by decide)]; exact hI.2.2.2.1
  · intro i hi
    have hb := rdm_bd (m := m) (n := n) (f := n + 1) (o := none) (g := 0) (v := 0) (k := 0) (d := d) (fun i hi => by rw [hd i hi]; exact first_ok i hi) i hi
    unfold mRules
    rw [sS_a]
    split
    · rw [sR_at, cpy7 hi]; exact hb
    · exact hI.2.2.2.2.1 i hi
  · rw [q 6 (by decide)]; exact hI.2.2.2.2.2.1
  · rw [p 3 (by decide)]; exact hI.2.2.2.2.2.2.2
theorem c_rules {post : Int32 → Sg → Prop} (hI : iv m) (hC : Cr m z) (n : Int32) (h0 : ¬ okRules m n → post (-10000) z)
    (h1 : okRules m n → ∀ d : Nat → Int32, (∀ i, i < 7 → d i = tb_FIRST i) → ∀ z', Cr (mRules m n.toNatClampNeg d) z' → post (rR m n.toNatClampNeg d).1 z') : pX4_rules n z post := by
  have hT := hI.1.2
  have eT : (z.1 0).toInt = (nT m : Int) := by rw [hC.s 0, hI.1.1, q_nI (by omega)]
  unfold pX4_rules pX4_rules_b12
  refine ⟨fun c => h0 (fun q => ?_), fun c => ⟨fun c1 => ?_, fun c1 => h0 (fun q => ?_)⟩⟩ <;> simp only [q_lt, q_le, eT, Int32.reduceToInt] at *
  · have := q.1; omega
  · have h1 := h1 ⟨by omega, by omega⟩
    obtain ⟨k, rfl, hk⟩ := q_nn (x := n) (by omega)
    rw [q_cl hk] at h1
    refine c_read (m := m) (z := sS z 0 0) (by omega) (hC.a 0) (fun R hR => ?_)
    have hx := h1 (va_cpy tb_FIRST ((sS z 0 0).2 2) 0 0 7) (fun i hi => cpy7 hi)
    unfold mRules rR at hx
    rw [← hR] at hx
    refine hx _ ?_
    split
    · rw [show (sS z 0 0).2 1 = m.2 1 from hC.a 1]
      have h2 : Cr (sR (sS m 0 0) 1 (va_cpy R.2 (m.2 1) 0 0 7)) (sR (sR (sS z 0 0) 2 R.2) 1 (va_cpy R.2 (m.2 1) 0 0 7)) := ((hC.uS 0 0).tR 2 R.2).uR 1 _
      exact h2
    · exact (hC.uS 0 0).tR 2 R.2
  · have := q.2; omega
theorem g_rules {post : Int32 → Sg → Prop} (hI : iv m) (hM : Mr m y) (n : Int32) (d : Nat → Int32) (hd : ∀ i, i < 7 → d i = tb_FIRST i) (h0 : ¬ okRules m n → post (-10000) y)
    (h1 : okRules m n → ∀ y', Mr (mRules m n.toNatClampNeg d) y' → post (rR m n.toNatClampNeg d).1 y') : pX5_rules n y post := by
  have hT := hI.1.2
  have eT : (y.1 0).toInt = (nT m : Int) := by rw [hM.1.1, hI.1.1, q_nI (by omega)]
  unfold pX5_rules pX5_rules_b12
  refine ⟨fun c => h0 (fun q => ?_), fun c => ⟨fun c1 => ?_, fun c1 => h0 (fun q => ?_)⟩⟩ <;> simp only [q_lt, q_le, eT, Int32.reduceToInt] at *
  · have := q.1; omega
  · have h1 := h1 ⟨by omega, by omega⟩
    obtain ⟨k, rfl, hk⟩ := q_nn (x := n) (by omega)
    rw [q_cl hk] at h1
    obtain ⟨p, q⟩ := mRules_s (m := m) k d
    have hE : nE (mRules m k d) = nE m := by unfold nE; rw [p 11 (by decide)]
    have hv2 : ∀ l i, vl (mRules m k d) l i = vl m l i := fun l i => by unfold vl; rw [q 5 (by decide)]
    have t0 : (mRules m k d).1 0 = 0 := sS_at _ _ _
    have tT : nT (mRules m k d) = 0 := by unfold nT; rw [t0]; rfl
    have mk : ∀ y' : Sg, (y'.1 0 = 0) → (∀ l, l ≠ 0 → y'.1 l = y.1 l) → (∀ l, l ≠ 1 → l ≠ 2 → y'.2 l = y.2 l) → (∀ i, i < 7 → y'.2 1 i = (mRules m k d).2 1 i) → Mr (mRules m k d) y' := by
      intro y' g0 g1 g2 g3
      refine ⟨⟨?_, ?_, ?_, ?_, ?_⟩, ?_, g3, ?_, ?_, ?_, ?_, ?_⟩
      · rw [g0, t0]
      · rw [g1 1 (by decide), p 1 (by decide)]; exact hM.1.2.1
      · rw [g1 2 (by decide), p 11 (by decide)]; exact hM.1.2.2.1
      · rw [g1 3 (by decide), p 2 (by decide)]; exact hM.1.2.2.2.1
      · rw [g1 4 (by decide), p 5 (by decide)]; exact hM.1.2.2.2.2
      · rw [g1 5 (by decide), g1 6 (by decide), p 3 (by decide), p 4 (by decide)]; exact hM.2.1
      · rw [g2 3 (by decide) (by decide), q 18 (by decide)]; exact hM.2.2.2.1
      · rw [g2 4 (by decide) (by decide), q 19 (by decide)]; exact hM.2.2.2.2.1
      · rw [g2 5 (by decide) (by decide), q 6 (by decide)]; exact hM.2.2.2.2.2.1
      · rw [hE, g2 6 (by decide) (by decide), g2 7 (by decide) (by decide), g2 8 (by decide) (by decide)]
        simp only [hv2]
        rw [q 3 (by decide), q 4 (by decide)]
        exact hM.2.2.2.2.2.2.1
      · intro i hi; omega
    refine g_reads (m := m) (y := sS y 0 0) (by omega) (fun i hi => hM.2.2.2.2.2.2.2 i (by omega)) d hd _ rfl (fun r hr => ?_)
    have hF : rR m k d = rdm m k (k + 1) none 0 0 0 d := rfl
    generalize rdm m k (k + 1) none 0 0 0 d = R at *
    rw [hF] at h1
    unfold pX5_rules_l29
    by_cases hz : R.1 = 0
    · have hr := hr hz
      refine lp_intro (fun (a : Int32 × Int32) (u : Sg) => a.1 = R.1 ∧ ∃ (i : Nat) (f : Nat → Int32), i ≤ 7 ∧ a.2 = nI i ∧ u = sR (sR (sS y 0 0) 2 r) 1 f ∧ ∀ j, j < i → f j = R.2 j) (fun a _ => 7 - a.2.toNatClampNeg) ?_ _ _ ⟨rfl, 0, y.2 1, by omega, rfl, ?_, fun j hj => absurd hj (Nat.not_lt_zero j)⟩
      · rintro K ⟨a, b⟩ u ⟨ha, i, f, hi, hb, hu, hf⟩ ih
        simp only at ha hb ih ⊢
        subst ha hb hu
        have e := q_nI (n := i) (by omega)
        have e1 := q_nI (n := i + 1) (by omega)
        unfold pX5_rules_b29 pX5_rules_b57
        refine ⟨fun c => ?_, fun c => ⟨fun c1 => absurd hz c1, fun _ => ⟨?_, ?_, ?_⟩⟩⟩ <;> simp only [q_le, e, Int32.reduceToInt] at c
        · have : i = 7 := by omega
          subst this
          refine h1 _ (mk (sR (sR (sS y 0 0) 2 r) 1 f) (sS_at y 0 0) (fun l hl => ?_) (fun l hl hl2 => ?_) (fun i hi => ?_))
          · rw [sR_s, sR_s, sS_ne _ _ _ _ hl]
          · rw [sR_ne _ _ _ _ hl, sR_ne _ _ _ _ hl2]; rfl
          · have hF2 : rR m k d = R := hF
            unfold mRules
            rw [sR_at, sS_a, hF2, if_pos hz, sR_at, cpy7 hi]
            exact hf i hi
        · exact q_in e (by omega)
        · exact q_in e (by omega)
        · refine ih _ _ ⟨rfl, i + 1, upd f i (r i), by omega, nI_1 i, ?_, fun j hj => ?_⟩ (by simp only [nI_1, q_cl e, q_cl e1]; omega)
          · unfold sA gA
            rw [sR_at, sR_sR, q_cl e, sR_ne _ 1 2 _ (by decide), sR_at]
          · by_cases q : j = i
            · subst q; rw [upd_at]; exact hr _ (by omega)
            · rw [upd_ne _ _ _ _ q]; exact hf j (by omega)
      · have : (sR (sS y 0 0) 2 r).2 1 = y.2 1 := by rw [sR_ne _ _ _ _ (by decide)]; rfl
        rw [← this, sR_self]
    · refine lp_intro (fun (a : Int32 × Int32) (u : Sg) => a.1 = R.1 ∧ a.2 = 0 ∧ u = sR (sS y 0 0) 2 r) (fun a _ => 7 - a.2.toNatClampNeg) ?_ _ _ ⟨rfl, rfl, rfl⟩
      rintro K ⟨a, b⟩ u ⟨ha, hb, hu⟩ ih
      simp only at ha hb ih ⊢
      subst ha hb hu
      unfold pX5_rules_b29 pX5_rules_b57
      refine ⟨fun c => absurd c (by decide), fun c => ⟨fun _ => ?_, fun c1 => absurd c1 hz⟩⟩
      refine h1 _ (mk (sR (sS y 0 0) 2 r) (sS_at y 0 0) (fun l hl => ?_) (fun l hl hl2 => ?_) (fun i hi => ?_))
      · rw [sR_s, sS_ne _ _ _ _ hl]
      · rw [sR_ne _ _ _ _ hl2]; rfl
      · have hF2 : rR m k d = R := hF
        unfold mRules
        rw [sS_a, hF2, if_neg hz, sR_ne _ _ _ _ (by decide)]
        exact hM.2.2.1 i hi
  · have := q.2; omega
end FEE
