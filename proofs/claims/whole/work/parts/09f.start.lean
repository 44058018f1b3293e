/-- the constant rows and the nest's links at the law's entry -/
theorem zT_of {L : List Cond} {args : Array Value} {s : State} {C n d : String} {ty : FieldType} {N : Nat} {f : Nat → Int32} {A : Nat → Prop} (hs : ∀ w ∈ L, w.before args s = true) (hl : (Cond.laysStatic C n d).before args s = true) (hini : (Cond.initialized C).before args s = true) (hN : N < 2 ^ 31) (h1 : Cond.arrayOf (.static C n d) ty ∈ L) (h2 : Cond.eq (.length (.static C n d)) (.int (Int32.ofNat N)) ∈ L) (h3 : ∀ j, j < N → Cond.eq (.elem (.static C n d) (.int (Int32.ofNat j))) (.int (f j)) ∈ L) (hA : ∀ a : Nat, a < s.heap.size → ¬ A a) : zT C n d ty N f A s := by
  obtain ⟨t, ht, hT⟩ := va_Tof (f := fun j => .int (f j)) (A := A) hN (hs _ h1) (va_eqt (hs _ h2)) (fun j hj => va_eqt (hs _ (h3 j hj))) hA
  exact ⟨t, va_Zref hl hini ht hA, hT⟩
set_option maxRecDepth 100000 in
theorem nWs_lt : ∀ w ∈ nWs, w ∈ lw_tbl := by decide +kernel
theorem nAll_of {args : Array Value} {s : State} (hts : ∀ w ∈ lw_tbl, w.before args s = true) : nAll s := fun w hw => va_Nw.of (by rcases nWs_nest w hw with ⟨a, i, b, n, d, h, rfl⟩ | ⟨a, i, x, h, rfl⟩ <;> rfl) (hts w (nWs_lt w hw))
set_option maxRecDepth 100000 in
set_option maxHeartbeats 4000000 in
theorem z0_of {args : Array Value} {s : State} {A : Nat → Prop} (h : (Jvm.Cond.and given_1 narrow_1).before args s = true) (hts : ∀ w ∈ lw_tbl, w.before args s = true) (hA : ∀ a : Nat, a < s.heap.size → ¬ A a) : zT "JumpHill" "SEASON_ROW" "[I" .int 24 tb_SEASON_ROW A s := by
  have hs := flat_of_before _ h
  refine zT_of hs (hts _ (show Cond.laysStatic "JumpHill" "SEASON_ROW" "[I" ∈ lw_tbl by decide +kernel)) (hts _ (show Cond.initialized "JumpHill" ∈ lw_tbl by decide +kernel)) (by decide) (by decide +kernel) (by decide +kernel) (by decide +kernel) hA
set_option maxRecDepth 100000 in
set_option maxHeartbeats 4000000 in
theorem z1_of {args : Array Value} {s : State} {A : Nat → Prop} (h : (Jvm.Cond.and given_1 narrow_1).before args s = true) (hts : ∀ w ∈ lw_tbl, w.before args s = true) (hA : ∀ a : Nat, a < s.heap.size → ¬ A a) : zT "JumpHill$Rules" "FIRST" "[I" .int 7 tb_FIRST A s := by
  have hs := flat_of_before _ h
  refine zT_of hs (hts _ (show Cond.laysStatic "JumpHill$Rules" "FIRST" "[I" ∈ lw_tbl by decide +kernel)) (hts _ (show Cond.initialized "JumpHill$Rules" ∈ lw_tbl by decide +kernel)) (by decide) (by decide +kernel) (by decide +kernel) (by decide +kernel) hA
set_option maxRecDepth 100000 in
set_option maxHeartbeats 4000000 in
theorem z2_of {args : Array Value} {s : State} {A : Nat → Prop} (h : (Jvm.Cond.and given_1 narrow_1).before args s = true) (hts : ∀ w ∈ lw_tbl, w.before args s = true) (hA : ∀ a : Nat, a < s.heap.size → ¬ A a) : zT "JumpHill$Rules" "LEAST" "[I" .int 7 tb_LEAST A s := by
  have hs := flat_of_before _ h
  refine zT_of hs (hts _ (show Cond.laysStatic "JumpHill$Rules" "LEAST" "[I" ∈ lw_tbl by decide +kernel)) (hts _ (show Cond.initialized "JumpHill$Rules" ∈ lw_tbl by decide +kernel)) (by decide) (by decide +kernel) (by decide +kernel) (by decide +kernel) hA
set_option maxRecDepth 100000 in
set_option maxHeartbeats 4000000 in
theorem z3_of {args : Array Value} {s : State} {A : Nat → Prop} (h : (Jvm.Cond.and given_1 narrow_1).before args s = true) (hts : ∀ w ∈ lw_tbl, w.before args s = true) (hA : ∀ a : Nat, a < s.heap.size → ¬ A a) : zT "JumpHill$Rules" "GREATEST" "[I" .int 7 tb_GREATEST A s := by
  have hs := flat_of_before _ h
  refine zT_of hs (hts _ (show Cond.laysStatic "JumpHill$Rules" "GREATEST" "[I" ∈ lw_tbl by decide +kernel)) (hts _ (show Cond.initialized "JumpHill$Rules" ∈ lw_tbl by decide +kernel)) (by decide) (by decide +kernel) (by decide +kernel) (by decide +kernel) hA
set_option maxRecDepth 100000 in
set_option maxHeartbeats 4000000 in
theorem z4_of {args : Array Value} {s : State} {A : Nat → Prop} (h : (Jvm.Cond.and given_1 narrow_1).before args s = true) (hts : ∀ w ∈ lw_tbl, w.before args s = true) (hA : ∀ a : Nat, a < s.heap.size → ¬ A a) : zT "JumpHill$Rules" "LETTER" "[C" .char 7 tb_LETTER A s := by
  have hs := flat_of_before _ h
  refine zT_of hs (hts _ (show Cond.laysStatic "JumpHill$Rules" "LETTER" "[C" ∈ lw_tbl by decide +kernel)) (hts _ (show Cond.initialized "JumpHill$Rules" ∈ lw_tbl by decide +kernel)) (by decide) (by decide +kernel) (by decide +kernel) (by decide +kernel) hA
set_option maxRecDepth 100000 in
set_option maxHeartbeats 4000000 in
theorem z5_of {args : Array Value} {s : State} {A : Nat → Prop} (h : (Jvm.Cond.and given_1 narrow_1).before args s = true) (hts : ∀ w ∈ lw_tbl, w.before args s = true) (hA : ∀ a : Nat, a < s.heap.size → ¬ A a) : zT "JumpHillModel" "SEASON" "[I" .int 24 tb_SEASON A s := by
  have hs := flat_of_before _ h
  refine zT_of hs (hts _ (show Cond.laysStatic "JumpHillModel" "SEASON" "[I" ∈ lw_tbl by decide +kernel)) (hts _ (show Cond.initialized "JumpHillModel" ∈ lw_tbl by decide +kernel)) (by decide) (by decide +kernel) (by decide +kernel) (by decide +kernel) hA
theorem eAll_of {args : Array Value} {s : State} {A : Nat → Prop} (h : (Jvm.Cond.and given_1 narrow_1).before args s = true) (hts : ∀ w ∈ lw_tbl, w.before args s = true) (hA : ∀ a : Nat, a < s.heap.size → ¬ A a) : eAll A s := ⟨⟨z0_of h hts hA, z1_of h hts hA, z2_of h hts hA, z3_of h hts hA, z4_of h hts hA, z5_of h hts hA⟩, nAll_of hts⟩
