/-- sums and differences of small numbers -/
theorem lw_add {i : Int32} {k : Nat} (hi : i.toInt = (k : Int)) (hk : k ≤ 10000) (v : Int32) (h0 : 0 ≤ v.toInt) (h1 : v.toInt ≤ 10000) : (i + v).toInt = (k : Int) + v.toInt := by
  rw [Int32.toInt_add, hi, q_bd (M := 20000) (by omega) (by omega) (by omega)]
theorem lw_sub7 {L : Nat} (hL : L ≤ 3584) : (nI L - 7).toInt = (L : Int) - 7 := by
  have e := q_nI (n := L) (by omega)
  rw [Int32.toInt_sub, e, show ((7 : Int32)).toInt = 7 from by decide, q_bd (M := 20000) (by omega) (by omega) (by omega)]
section LAWJ
variable {p : Program} {l : Launch} {e : Env} {s : State} {m : MethodId} {args : Array Value} {below : List Frame} {meth : Method} {c : Code} {D : va_G} {cB cI cZ : ClassId} {A : Nat → Prop} {Q : State → Prop} {ad bd : Nat → Nat} {b L : Nat} {xs : Nat → Int32} {i : Int32} {z y : Sg}
set_option maxHeartbeats 4000000 in
set_option maxRecDepth 100000 in
/-- one call of the law's script: from the switch to the loop's end -/
theorem law_switch (X : Cx p s m args meth c cL_law 4 ret RL wsL_law D (tyL cB cI cZ) A) (S : Sx b L xs s A i) (K : ∀ z2 y2, Rel z2 y2 → WG p l e room_1 s m args below meth c 4 D A Q (cW ad cB cI cZ z2 ++ mW bd cB cI cZ y2) 41 3668 907 (lv4 b (ad 0) (bd 0) i) []) (hR : Rel z y) (w : Int32) : WG p l e room_1 s m args below meth c 4 D A Q (cW ad cB cI cZ z ++ mW bd cB cI cZ y) 41 3668 33 (lv4 b (ad 0) (bd 0) i) [.int w] := by
  by_cases h0 : w = 0
  · exact wg_tin X 0 dL_law_33 h0 (by decide) (by decide) rfl (tgt := 124) (by decide) (law_c0 X S K hR)
  by_cases h1 : w = 1
  · exact wg_tin X 1 dL_law_33 h1 (by decide) (by decide) rfl (tgt := 187) (by decide) (law_c1 X S K hR)
  by_cases h2 : w = 2
  · exact wg_tin X 2 dL_law_33 h2 (by decide) (by decide) rfl (tgt := 210) (by decide) (law_c2 X S K hR)
  by_cases h3 : w = 3
  · exact wg_tin X 3 dL_law_33 h3 (by decide) (by decide) rfl (tgt := 233) (by decide) (law_c3 X S K hR)
  by_cases h4 : w = 4
  · exact wg_tin X 4 dL_law_33 h4 (by decide) (by decide) rfl (tgt := 256) (by decide) (law_c4 X S K hR)
  by_cases h5 : w = 5
  · exact wg_tin X 5 dL_law_33 h5 (by decide) (by decide) rfl (tgt := 289) (by decide) (law_c5 X S K hR)
  by_cases h6 : w = 6
  · exact wg_tin X 6 dL_law_33 h6 (by decide) (by decide) rfl (tgt := 312) (by decide) (law_c6 X S K hR)
  by_cases h7 : w = 7
  · exact wg_tin X 7 dL_law_33 h7 (by decide) (by decide) rfl (tgt := 391) (by decide) (law_c7 X S K hR)
  by_cases h8 : w = 8
  · exact wg_tin X 8 dL_law_33 h8 (by decide) (by decide) rfl (tgt := 466) (by decide) (law_c8 X S K hR)
  by_cases h9 : w = 9
  · exact wg_tin X 9 dL_law_33 h9 (by decide) (by decide) rfl (tgt := 541) (by decide) (law_c9 X S K hR)
  by_cases h10 : w = 10
  · exact wg_tin X 10 dL_law_33 h10 (by decide) (by decide) rfl (tgt := 600) (by decide) (law_c10 X S K hR)
  by_cases h11 : w = 11
  · exact wg_tin X 11 dL_law_33 h11 (by decide) (by decide) rfl (tgt := 653) (by decide) (law_c11 X S K hR)
  by_cases h12 : w = 12
  · exact wg_tin X 12 dL_law_33 h12 (by decide) (by decide) rfl (tgt := 696) (by decide) (law_c12 X S K hR)
  by_cases h13 : w = 13
  · exact wg_tin X 13 dL_law_33 h13 (by decide) (by decide) rfl (tgt := 729) (by decide) (law_c13 X S K hR)
  by_cases h14 : w = 14
  · exact wg_tin X 14 dL_law_33 h14 (by decide) (by decide) rfl (tgt := 772) (by decide) (law_c14 X S K hR)
  by_cases h15 : w = 15
  · exact wg_tin X 15 dL_law_33 h15 (by decide) (by decide) rfl (tgt := 805) (by decide) (law_c15 X S K hR)
  by_cases h16 : w = 16
  · exact wg_tin X 16 dL_law_33 h16 (by decide) (by decide) rfl (tgt := 828) (by decide) (law_c16 X S K hR)
  by_cases h17 : w = 17
  · exact wg_tin X 17 dL_law_33 h17 (by decide) (by decide) rfl (tgt := 871) (by decide) (law_c17 X S K hR)
  by_cases h18 : w = 18
  · exact wg_tin X 18 dL_law_33 h18 (by decide) (by decide) rfl (tgt := 884) (by decide) (law_c18 X S K hR)
  · refine wg_tout X (tgt := 907) dL_law_33 ?_ (by decide) (K z y hR)
    simp only [q_eq] at h0 h1 h2 h3 h4 h5 h6 h7 h8 h9 h10 h11 h12 h13 h14 h15 h16 h17 h18
    simp only [show ((0 : Int32)).toInt = 0 from by decide, show ((1 : Int32)).toInt = 1 from by decide, show ((2 : Int32)).toInt = 2 from by decide, show ((3 : Int32)).toInt = 3 from by decide, show ((4 : Int32)).toInt = 4 from by decide, show ((5 : Int32)).toInt = 5 from by decide, show ((6 : Int32)).toInt = 6 from by decide, show ((7 : Int32)).toInt = 7 from by decide, show ((8 : Int32)).toInt = 8 from by decide, show ((9 : Int32)).toInt = 9 from by decide, show ((10 : Int32)).toInt = 10 from by decide, show ((11 : Int32)).toInt = 11 from by decide, show ((12 : Int32)).toInt = 12 from by decide, show ((13 : Int32)).toInt = 13 from by decide, show ((14 : Int32)).toInt = 14 from by decide, show ((15 : Int32)).toInt = 15 from by decide, show ((16 : Int32)).toInt = 16 from by decide, show ((17 : Int32)).toInt = 17 from by decide, show ((18 : Int32)).toInt = 18 from by decide] at h0 h1 h2 h3 h4 h5 h6 h7 h8 h9 h10 h11 h12 h13 h14 h15 h16 h17 h18
    omega
set_option maxHeartbeats 4000000 in
set_option maxRecDepth 100000 in
/-- the law's loop: from its head to its end, whatever the script -/
theorem law_loop (X : Cx p s m args meth c cL_law 4 ret RL wsL_law D (tyL cB cI cZ) A) (hX : va_X b L xs s s.heap) (hbl : b < s.heap.size) (hbA : ¬ A b) (hL : L ≤ 3584) (Ke : ∀ z2 y2 i2, WG p l e room_1 s m args below meth c 4 D A Q (cW ad cB cI cZ z2 ++ mW bd cB cI cZ y2) 41 3668 913 (lv4 b (ad 0) (bd 0) i2) []) : ∀ (n k : Nat) (i : Int32) (z y : Sg), i.toInt = (k : Int) → k ≤ L → L < k + n → Rel z y → WG p l e room_1 s m args below meth c 4 D A Q (cW ad cB cI cZ z ++ mW bd cB cI cZ y) 41 3668 18 (lv4 b (ad 0) (bd 0) i) [] := by
  intro n
  induction n with
  | zero => exact fun k i z y hi hk h => absurd h (by omega)
  | succ n ih =>
    intro k i z y hi hk hn hR
    refine wg_iload_n X dL_law_18 3 rfl ?_
    refine wg_aload_n X dL_law_19 0 rfl ?_
    refine wg_slen X hX hbl hbA dL_law_20 ?_
    refine wg_bipush X (v := 7) dL_law_21 (by decide) ?_
    refine wg_isub X dL_law_23 ?_
    refine wg_icmp_gt X (tgt := 913) dL_law_24 (by decide) (fun _ => Ke z y i) (fun h => ?_)
    have h7 : k + 7 ≤ L := by
      rw [q_lt, lw_sub7 hL, hi] at h
      omega
    have S : Sx b L xs s A i := ⟨hX, hbl, hbA, fun v h0 h6 => vp_in_iff.mpr (by
      rw [lw_add hi (by omega) v h0 (by omega)]
      omega)⟩
    refine wg_aload_n X dL_law_27 0 rfl ?_
    refine wg_iload_n X dL_law_28 3 rfl ?_
    refine wg_sld X hX hbl hbA (vp_in_iff.mpr (by rw [hi]; omega)) dL_law_29 ?_
    refine wg_bipush X (v := 31) dL_law_30 (by decide) ?_
    refine wg_iand X dL_law_32 ?_
    refine law_switch X S (fun z2 y2 hR2 => ?_) hR _
    refine wg_iinc X (v := i + 7) (lv' := [(3, .int (i + 7)), (0, .ref b), (1, .ref (ad 0)), (2, .ref (bd 0))]) dL_law_907 3 rfl rfl (by decide) rfl ?_
    refine wg_goto X (tgt := 18) dL_law_910 (by decide) ?_
    refine wg_sub [1, 2, 3, 0] (lv' := lv4 b (ad 0) (bd 0) (i + 7)) rfl ?_
    refine ih (k + 7) (i + 7) z2 y2 ?_ h7 (by omega) hR2
    rw [lw_add hi (by omega) 7 (by decide) (by decide), show ((7 : Int32)).toInt = 7 from by decide]
    omega
set_option maxHeartbeats 4000000 in
set_option maxRecDepth 100000 in
/-- from the law's first row: both objects are made, then the loop -/
theorem law_main (X : Cx p s m args meth c cL_law 4 ret RL wsL_law D (tyL cB cI cZ) A) (hX : va_X b L xs s s.heap) (hbl : b < s.heap.size) (hbA : ¬ A b) (hL : L ≤ 3584) (Ke : ∀ (ad bd : Nat → Nat) z2 y2 i2, WG p l e room_1 s m args below meth c 4 D A Q (cW ad cB cI cZ z2 ++ mW bd cB cI cZ y2) 41 3668 913 (lv4 b (ad 0) (bd 0) i2) []) : WG p l e room_1 s m args below meth c 4 D A Q [] 0 0 0 [(0, .ref b)] [] := by
  refine wg_new X inlX4 tyX4 tyX4_ok (X.wd 0 rfl) (X.wd 1 rfl) (X.wd 2 rfl) (ci := 4) rfl (fs := [.null, .int 0, .null, .null, .null, .null, .null, .int 0, .int 0, .int 0, .int 0]) (fun j hj => by rcases (show j = 0 ∨ j = 1 ∨ j = 2 ∨ j = 3 ∨ j = 4 ∨ j = 5 ∨ j = 6 ∨ j = 7 ∨ j = 8 ∨ j = 9 ∨ j = 10 by omega) with rfl | rfl | rfl | rfl | rfl | rfl | rfl | rfl | rfl | rfl | rfl <;> rfl) (Nat.le_of_ble_eq_true rfl) (Nat.le_of_ble_eq_true rfl) dL_law_0 (fun q1 => ?_)
  refine wg_eq (ws' := [(q1, .inr (4, [.null, .int 0, .null, .null, .null, .null, .null, .int 0, .int 0, .int 0, .int 0]))]) rfl ?_
  refine wg_dup X dL_law_3 rfl ?_
  refine wg_init X (iX4 l D cB cI cZ) (cwI 0 X.hts gL_law_X4_init rfl rfl rfl (X.wd 2 rfl) (X.wd 6 rfl) (X.wd 7 rfl) rfl ⟨by decide, by decide, by decide +kernel⟩ ⟨Nat.le_of_ble_eq_true rfl, Nat.le_of_ble_eq_true rfl⟩) 0 rfl [] (wr := []) rfl rfl (by decide) (Nat.le_of_ble_eq_true rfl) ⟨Nat.le_of_ble_eq_true rfl, Nat.le_of_ble_eq_true rfl⟩ dL_law_4 (fun ad had => ?_)
  subst had
  refine wg_eq (ws' := cW ad cB cI cZ z0) (hW_z0 cB cI cZ ad) ?_
  refine wg_astore_n X (lv' := [(1, .ref (ad 0)), (0, .ref b)]) dL_law_7 (by decide) rfl ?_
  refine wg_new X inlX5 tyX5 tyX5_ok (X.wd 3 rfl) (X.wd 4 rfl) (X.wd 5 rfl) (ci := 5) rfl (fs := [.null, .int 0, .null, .null, .int 0, .int 0, .int 0, .int 0, .null, .null, .null, .null, .null, .null, .int 0, .int 0, .null, .null, .null, .null, .null]) (fun j hj => by rcases (show j = 0 ∨ j = 1 ∨ j = 2 ∨ j = 3 ∨ j = 4 ∨ j = 5 ∨ j = 6 ∨ j = 7 ∨ j = 8 ∨ j = 9 ∨ j = 10 ∨ j = 11 ∨ j = 12 ∨ j = 13 ∨ j = 14 ∨ j = 15 ∨ j = 16 ∨ j = 17 ∨ j = 18 ∨ j = 19 ∨ j = 20 by omega) with rfl | rfl | rfl | rfl | rfl | rfl | rfl | rfl | rfl | rfl | rfl | rfl | rfl | rfl | rfl | rfl | rfl | rfl | rfl | rfl | rfl <;> rfl) (Nat.le_of_ble_eq_true rfl) (Nat.le_of_ble_eq_true rfl) dL_law_8 (fun q2 => ?_)
  refine wg_dup X dL_law_11 rfl ?_
  refine wg_init X (iX5 l D cB cI cZ) (cwI 0 X.hts gL_law_X5_init rfl rfl rfl (X.wd 5 rfl) (X.wd 66 rfl) (X.wd 67 rfl) rfl ⟨by decide, by decide, by decide +kernel⟩ ⟨Nat.le_of_ble_eq_true rfl, Nat.le_of_ble_eq_true rfl⟩) 26 rfl [0, 1, 2, 3, 4, 5, 6, 7, 8, 9, 10, 11, 12, 13, 14, 15, 16, 17, 18, 19, 20, 21, 22, 23, 24, 25] (wr := cW ad cB cI cZ z0) rfl (by decide) (by decide) (Nat.le_of_ble_eq_true rfl) ⟨Nat.le_of_ble_eq_true rfl, Nat.le_of_ble_eq_true rfl⟩ dL_law_12 (fun bd hbd => ?_)
  subst hbd
  refine wg_eq (ws' := cW ad cB cI cZ z0 ++ mW bd cB cI cZ y0) (by rw [oW_y0]) ?_
  refine wg_astore_n X (lv' := [(2, .ref (bd 0)), (1, .ref (ad 0)), (0, .ref b)]) dL_law_15 (by decide) rfl ?_
  refine wg_iconst X (v := 0) dL_law_16 (by decide) ?_
  refine wg_istore_n X (lv' := [(3, .int 0), (2, .ref (bd 0)), (1, .ref (ad 0)), (0, .ref b)]) dL_law_17 (by decide) rfl ?_
  refine wg_sub [3, 2, 1, 0] (lv' := lv4 b (ad 0) (bd 0) 0) rfl ?_
  exact law_loop X hX hbl hbA hL (Ke ad bd) (L + 1) 0 0 z0 y0 (by decide) (Nat.zero_le _) (by omega) rel0
end LAWJ
theorem tyK {s : State} {ty : FieldType} {cA : ClassId} (h : ArrOfT s cA ty) (h2 : va_RA s cA ty) : ArrOfT s cA ty ∧ va_RA s cA ty := ⟨h, h2⟩
set_option maxHeartbeats 4000000 in
set_option maxRecDepth 100000 in
/-- THE LAW, from its entry -/
theorem whole_start {p : Program} {e : Env} {s : State} {m : MethodId} {below : List Frame} {meth : Method} {c : Code} (l : Launch) (hflags : l.flags = flags0) {b L : Nat} {xs : Nat → Int32} (hL : L ≤ 3584) (C0 : lw_At p s m meth c b L xs) : W p l e room_1 s m #[Value.ref b] below meth c s.heap [] 0 0 (lw_Z below #[Value.ref b] s) (entryFrame m ([Value.ref b] : List Value).toArray 4) := by
  obtain ⟨hx, hb, hr, hml, hown, hts, hX, hbl, hlocks, hgv⟩ := C0
  have htL : ∀ w ∈ wsL_law, w.before #[Value.ref b] s = true := fun w h => hts w (wsL_law_in w h)
  have wd : ∀ (i : Nat) {v : Cond}, wsL_law[i]? = some v → v.before #[Value.ref b] s = true := fun i v hv => htL v (List.mem_of_getElem? hv)
  have hbA : ¬ (fun q : Nat => s.heap.size ≤ q) b := Nat.not_le.mpr hbl
  have hE : eAll (fun q : Nat => s.heap.size ≤ q) s := eAll_of hgv hts (fun a h => Nat.not_le.mpr h)
  obtain ⟨c0, i0, k0⟩ := u_known (C := RX0) (T := TX0) (N := 7) (n := 7) htL inlX0 (wd 19 rfl)
  obtain ⟨c1, i1, k1⟩ := u_known (C := RX1) (T := TX1) (N := 4) (n := 4) htL inlX1 (wd 35 rfl)
  obtain ⟨c2, i2, k2⟩ := u_known (C := RX2) (T := TX2) (N := 2) (n := 2) htL inlX2 (wd 31 rfl)
  obtain ⟨c3, i3, k3⟩ := u_known (C := RX3) (T := TX3) (N := 10) (n := 10) htL inlX3 (wd 15 rfl)
  obtain ⟨c4, i4, k4⟩ := u_known (C := RX4) (T := TX4) (N := 11) (n := 11) htL inlX4 (wd 1 rfl)
  obtain ⟨c5, i5, k5⟩ := u_known (C := RX5) (T := TX5) (N := 21) (n := 21) htL inlX5 (wd 4 rfl)
  obtain ⟨cI, aI, rI⟩ := ak_of (ty := .int) (wd 12 rfl) (fun _ h => h)
  obtain ⟨cZ, aZ, rZ⟩ := ak_of (ty := .boolean) (wd 61 rfl) (fun _ h => h)
  obtain ⟨cB, aB, rB⟩ := ak_of (ty := .byte) (wd 70 rfl) (fun _ h => h)
  have hKc : ∃ D : va_G, ∀ (k : Nat) (q : vw_C), vwCl[k]? = some q → u_Kn s q.1 q.2.1 q.2.2 (D.1 k) (D.2 k) := by
    refine ⟨(fun k => match k with | 0 => c0 | 1 => c1 | 2 => c2 | 3 => c3 | 4 => c4 | _ => c5, fun k => match k with | 0 => i0 | 1 => i1 | 2 => i2 | 3 => i3 | 4 => i4 | _ => i5), ?_⟩
    intro k q hq
    match k, hq with
    | 0, hq => cases hq; exact k0
    | 1, hq => cases hq; exact k1
    | 2, hq => cases hq; exact k2
    | 3, hq => cases hq; exact k3
    | 4, hq => cases hq; exact k4
    | 5, hq => cases hq; exact k5
    | k + 6, hq => simp [vwCl] at hq
  obtain ⟨D, hKc⟩ := hKc
  have hK : va_K D vwCl (tyL cB cI cZ) s := ⟨hKc, fun k q hq => by
    match k, hq with
    | 0, hq => cases hq; exact ⟨aB, rB⟩
    | 1, hq => cases hq; exact ⟨aI, rI⟩
    | 2, hq => cases hq; exact ⟨aZ, rZ⟩
    | k + 3, hq => simp [tyL] at hq⟩
  have X : Cx p s m #[Value.ref b] meth c cL_law 4 ret RL wsL_law D (tyL cB cI cZ) (fun q : Nat => s.heap.size ≤ q) := ⟨hx, hb, hml, hr, hown, htL, hK, hlocks, hE, fun _ h => h⟩
  have hl := lv_entry ([.ref b]) (n := 4) (Nat.le_of_ble_eq_true rfl)
  rw [lg_entry_eq]
  refine law_main (Q := lw_Z below #[Value.ref b] s) X hX hbl hbA hL (fun ad bd z2 y2 i2 => ?_) s.heap [] _ (fun k q h => by simp at h) ⟨fun i j p q h => by simp at h, fun k q h => by simp at h⟩ va_S.rf hl
  refine wg_iconst X (v := 1) dL_law_913 (by decide) ?_
  intro H locs ls hP hD hS hl
  refine va_forget (fun q hq => hS.2.2 q hq) ?_
  exact lw_ret hx hb hr hlocks dL_law_914
