/-- the law's locals; an int of the script; whether it is not 0; what a call of the law reads -/
abbrev lv4 (b a a2 : Nat) (i : Int32) : List (Nat × Value) := [(0, .ref b), (1, .ref a), (2, .ref a2), (3, .int i)]
def rd (xs : Nat → Int32) (i v : Int32) : Int32 := xs (i + v).toNatClampNeg
def nz (x : Int32) : Int32 := if x = 0 then 0 else 1
def Sx (b L : Nat) (xs : Nat → Int32) (s : State) (A : Nat → Prop) (i : Int32) : Prop := va_X b L xs s s.heap ∧ b < s.heap.size ∧ ¬ A b ∧ ∀ v : Int32, 0 ≤ v.toInt → v.toInt ≤ 6 → vp_in (i + v) L
section LAWR
variable {p : Program} {l : Launch} {e : Env} {R : Room} {s : State} {m : MethodId} {args : Array Value} {below : List Frame} {meth : Method} {c : Code}
variable {cc : ByteArray} {nL : Nat} {ret : Option FieldType} {own : String} {Ts : List Cond} {D : va_G} {tys : List (ClassId × FieldType)} {A : Nat → Prop} {Q : State → Prop} {ws : va_W} {mc ms : Nat} {pc : Nat} {lv : List (Nat × Value)} {st : List Value}
theorem wg_sld (X : Cx p s m args meth c cc nL ret own Ts D tys A) {b L : Nat} {xs : Nat → Int32} (hX : va_X b L xs s s.heap) (hbl : b < s.heap.size) (hbA : ¬ A b) {i : Int32} (hin : vp_in i L) (hdg : decode cc pc = .ok (.iaload, 1)) (k : WG p l e R s m args below meth c nL D A Q ws mc ms (pc + 1) lv (.int (xs i.toNatClampNeg) :: st)) : WG p l e R s m args below meth c nL D A Q ws mc ms pc lv (.int i :: .ref b :: st) := fun H locs ls hP hD hS hl => va_sld X.hx X.hb hX hbl hbA hS hin hdg (k H locs ls hP hD hS hl)
theorem wg_slen (X : Cx p s m args meth c cc nL ret own Ts D tys A) {b L : Nat} {xs : Nat → Int32} (hX : va_X b L xs s s.heap) (hbl : b < s.heap.size) (hbA : ¬ A b) (hdg : decode cc pc = .ok (.arraylength, 1)) (k : WG p l e R s m args below meth c nL D A Q ws mc ms (pc + 1) lv (.int (nI L) :: st)) : WG p l e R s m args below meth c nL D A Q ws mc ms pc lv (.ref b :: st) := fun H locs ls hP hD hS hl => va_slen X.hx X.hb hX hbl hbA hS hdg (k H locs ls hP hD hS hl)
theorem wg_nz (X : Cx p s m args meth c cc nL ret own Ts D tys A) {x : Int32} {off off2 : Int} {tgt tgt2 : Nat} (d1 : decode cc pc = .ok (.ifCond .eq off, 3)) (t1 : (pc : Int) + off = (tgt : Int)) (d2 : decode cc (pc + 3) = .ok (.iconst 1, 1)) (d3 : decode cc (pc + 3 + 1) = .ok (.goto off2, 3)) (t2 : ((pc + 3 + 1 : Nat) : Int) + off2 = (tgt2 : Int)) (d4 : decode cc tgt = .ok (.iconst 0, 1)) (ht : tgt + 1 = tgt2) (k : WG p l e R s m args below meth c nL D A Q ws mc ms tgt2 lv (.int (nz x) :: st)) : WG p l e R s m args below meth c nL D A Q ws mc ms pc lv (.int x :: st) := by
  refine wg_if_eq X d1 t1 (fun h => ?_) (fun h => ?_)
  · refine wg_iconst X (v := 0) d4 (by decide) ?_
    rw [ht]
    unfold nz at k
    rw [if_pos h] at k
    exact k
  · refine wg_iconst X (v := 1) d2 (by decide) ?_
    refine wg_goto X d3 t2 ?_
    unfold nz at k
    rw [if_neg h] at k
    exact k
theorem wg_arg (X : Cx p s m args meth c cc nL ret own Ts D tys A) {b L a a2 : Nat} {xs : Nat → Int32} {i v : Int32} {n : Int} (S : Sx b L xs s A i) (d0 : decode cc pc = .ok (.aload_n 0, 1)) (d1 : decode cc (pc + 1) = .ok (.iload_n 3, 1)) (d2 : decode cc (pc + 1 + 1) = .ok (.iconst n, 1)) (hv : Int32.ofInt n = v) (d3 : decode cc (pc + 1 + 1 + 1) = .ok (.iadd, 1)) (d4 : decode cc (pc + 1 + 1 + 1 + 1) = .ok (.iaload, 1)) (h0 : 0 ≤ v.toInt) (h6 : v.toInt ≤ 6) (k : WG p l e R s m args below meth c nL D A Q ws mc ms (pc + 1 + 1 + 1 + 1 + 1) (lv4 b a a2 i) (.int (rd xs i v) :: st)) : WG p l e R s m args below meth c nL D A Q ws mc ms pc (lv4 b a a2 i) st := by
  refine wg_aload_n X d0 0 rfl ?_
  refine wg_iload_n X d1 3 rfl ?_
  refine wg_iconst X d2 hv ?_
  refine wg_iadd X d3 ?_
  exact wg_sld X S.1 S.2.1 S.2.2.1 (S.2.2.2 v h0 h6) d4 k
theorem wg_arg6 (X : Cx p s m args meth c cc nL ret own Ts D tys A) {b L a a2 : Nat} {xs : Nat → Int32} {i v : Int32} {n : Int} (S : Sx b L xs s A i) (d0 : decode cc pc = .ok (.aload_n 0, 1)) (d1 : decode cc (pc + 1) = .ok (.iload_n 3, 1)) (d2 : decode cc (pc + 1 + 1) = .ok (.bipush n, 2)) (hv : (Int8.ofInt n).toInt32 = v) (d3 : decode cc (pc + 1 + 1 + 2) = .ok (.iadd, 1)) (d4 : decode cc (pc + 1 + 1 + 2 + 1) = .ok (.iaload, 1)) (h0 : 0 ≤ v.toInt) (h6 : v.toInt ≤ 6) (k : WG p l e R s m args below meth c nL D A Q ws mc ms (pc + 1 + 1 + 2 + 1 + 1) (lv4 b a a2 i) (.int (rd xs i v) :: st)) : WG p l e R s m args below meth c nL D A Q ws mc ms pc (lv4 b a a2 i) st := by
  refine wg_aload_n X d0 0 rfl ?_
  refine wg_iload_n X d1 3 rfl ?_
  refine wg_bipush X d2 hv ?_
  refine wg_iadd X d3 ?_
  exact wg_sld X S.1 S.2.1 S.2.2.1 (S.2.2.2 v h0 h6) d4 k
/-- the law calls a method of the class; of the reference: the other's world stays -/
theorem law_x {cB cI cZ : ClassId} (X : Cx p s m args meth c cc nL ret own Ts D (tyL cB cI cZ) A) {ad bd : Nat → Nat} {z y : Sg} {Y : MethodName} {bytes : ByteArray} {maxL n index : Nat} {rt : Option FieldType} {wsy : List Cond} {rm : Room} {As st0 : List Value} {post : Int32 → Sg → Prop} (hM : Ci l D (tyL cB cI cZ) (cW ad cB cI cZ) Y wsy rm (.ref (ad 0) :: As) z post) (cw : CallW R s args own RX4 index Y bytes maxL rt wsy rm 0 0 n) (hn : As.length = n) (hst : st0 = As.reverse ++ .ref (ad 0) :: st) (hW : (st.map fun v => v.category).sum ≤ 8) (hdg : decode cc pc = .ok (.invokevirtual index, 3)) (hf : mc ≤ R.cells ∧ ms ≤ R.slots) (kk : ∀ r u, post r u → WG p l e R s m args below meth c nL D A Q (mW bd cB cI cZ y ++ cW ad cB cI cZ u) mc ms (pc + 3) lv (.int r :: st)) : WG p l e R s m args below meth c nL D A Q (cW ad cB cI cZ z ++ mW bd cB cI cZ y) mc ms pc lv st0 :=
  wg_callV_i X hM cw [0, 1, 2, 3, 4, 5, 6, 7, 8, 9, 10, 11, 12, 13, 14, 15, 16, 17, 18, 19, 20, 21, 22, 23, 24, 25] [26, 27, 28, 29, 30, 31, 32, 33, 34, 35, 36, 37, 38, 39, 40] (wr := mW bd cB cI cZ y) rfl (by decide) rfl (by decide) (by decide) 0 4 rfl rfl rfl hn hst hW hdg hf kk
theorem law_m {cB cI cZ : ClassId} (X : Cx p s m args meth c cc nL ret own Ts D (tyL cB cI cZ) A) {ad bd : Nat → Nat} {z y : Sg} {Y : MethodName} {bytes : ByteArray} {maxL n index : Nat} {rt : Option FieldType} {wsy : List Cond} {rm : Room} {As st0 : List Value} {post : Int32 → Sg → Prop} (hM : Ci l D (tyL cB cI cZ) (mW bd cB cI cZ) Y wsy rm (.ref (bd 0) :: As) y post) (cw : CallW R s args own RX5 index Y bytes maxL rt wsy rm 0 0 n) (hn : As.length = n) (hst : st0 = As.reverse ++ .ref (bd 0) :: st) (hW : (st.map fun v => v.category).sum ≤ 8) (hdg : decode cc pc = .ok (.invokevirtual index, 3)) (hf : mc ≤ R.cells ∧ ms ≤ R.slots) (kk : ∀ r u, post r u → WG p l e R s m args below meth c nL D A Q (cW ad cB cI cZ z ++ mW bd cB cI cZ u) mc ms (pc + 3) lv (.int r :: st)) : WG p l e R s m args below meth c nL D A Q (mW bd cB cI cZ y ++ cW ad cB cI cZ z) mc ms pc lv st0 :=
  wg_callV_i X hM cw [0, 1, 2, 3, 4, 5, 6, 7, 8, 9, 10, 11, 12, 13, 14] [15, 16, 17, 18, 19, 20, 21, 22, 23, 24, 25, 26, 27, 28, 29, 30, 31, 32, 33, 34, 35, 36, 37, 38, 39, 40] (wr := cW ad cB cI cZ z) rfl (by decide) rfl (by decide) (by decide) 0 5 rfl rfl rfl hn hst hW hdg hf kk
end LAWR
/-- both sides as the constructors leave them -/
def f5 : Nat → Int32 := upd (upd (upd (upd (upd (fun _ => 0) (0 : Int32).toNatClampNeg 1) (1 : Int32).toNatClampNeg 1) (2 : Int32).toNatClampNeg 1) (3 : Int32).toNatClampNeg 1) (4 : Int32).toNatClampNeg 1
def z0 : Sg := (fun k => match k with | 3 => -1 | 4 => -1 | 5 => 20 | _ => 0, fun k => match k with | 1 => va_cpy tb_FIRST (fun _ => 0) 0 0 7 | 6 => f5 | _ => fun _ => 0)
def y0 : Sg := (fun k => match k with | 4 => 20 | 5 => -10000 | 6 => -10000 | _ => 0, fun k => match k with | 1 => fR | 5 => f5 | _ => fun _ => 0)
theorem hW_z0 (cB cI cZ : ClassId) (ad : Nat → Nat) : hW cB cI cZ ad = cW ad cB cI cZ z0 := rfl
theorem oW_y0 (cB cI cZ : ClassId) (bd : Nat → Nat) : oW cB cI cZ bd = mW bd cB cI cZ y0 := rfl
theorem z0_T : nT z0 = 0 := rfl
theorem z0_E : nE z0 = 0 := rfl
theorem z0_rules : ∀ i, i < 7 → (tb_LEAST i).toInt ≤ (z0.2 1 i).toInt ∧ (z0.2 1 i).toInt ≤ (tb_GREATEST i).toInt := by decide +kernel
theorem z0_weights : ∀ i, i < 5 → 0 ≤ (z0.2 6 i).toInt ∧ (z0.2 6 i).toInt ≤ 9 := by decide +kernel
theorem y0_rules : ∀ i, i < 7 → y0.2 1 i = z0.2 1 i := by decide +kernel
theorem z0_iv : iv z0 := ⟨⟨rfl, by rw [z0_T]; omega⟩, ⟨rfl, Nat.zero_le _⟩, ⟨rfl, by rw [z0_E]; omega⟩, ⟨by decide, by decide⟩, z0_rules, z0_weights, fun k hk => absurd (z0_E ▸ hk) (Nat.not_lt_zero k), ⟨by decide, by decide⟩⟩
theorem y0_Mr : Mr z0 y0 := ⟨⟨rfl, rfl, rfl, rfl, rfl⟩, Or.inl ⟨rfl, rfl, rfl⟩, y0_rules, fun _ _ => rfl, fun _ _ => rfl, fun _ _ => rfl, fun k hk => absurd (z0_E ▸ hk) (Nat.not_lt_zero k), fun k hk => absurd (z0_T ▸ hk) (Nat.not_lt_zero k)⟩
theorem rel0 : Rel z0 y0 := ⟨z0, z0_iv, Cr.rf z0, y0_Mr⟩
