set_option maxHeartbeats 4000000 in
set_option maxRecDepth 100000 in
theorem wX0_aheadInRoundZero_b89 {p : Program} {l : Launch} {e : Env} {s : State} {m : MethodId} {args : Array Value} {below : List Frame} {meth : Method} {c : Code} {D : va_G} {A : Nat → Prop} {ad : Nat → Nat} {cB cI cZ : ClassId} {post : Int32 → Sg → Prop} {K21 : Int32 → Int32 → Int32 → Int32 → Sg → Prop} (X : Cx p s m args meth c cX0_aheadInRoundZero 7 (some .int) RX0 wsX0_aheadInRoundZero D (tyL cB cI cZ) A) (hK21 : ∀ (x1 x3 x4 x5 : Int32) (z : Sg), K21 x1 x3 x4 x5 z → WW p l e rmX0_aheadInRoundZero s m args below meth c 7 D A (cW ad cB cI cZ) (QI below args s D (tyL cB cI cZ) (cW ad cB cI cZ) A post) z 21 [(0, .ref (ad 12)), (1, .int x1), (2, .ref (ad 3)), (3, .int x3), (4, .int x4), (5, .int x5)] []) (x1 x3 x5 y0 y1 : Int32) (z : Sg) (hp : pX0_aheadInRoundZero_b89 K21 post x1 x3 x5 y0 y1 z) : WW p l e rmX0_aheadInRoundZero s m args below meth c 7 D A (cW ad cB cI cZ) (QI below args s D (tyL cB cI cZ) (cW ad cB cI cZ) A post) z 89 [(0, .ref (ad 12)), (1, .int x1), (2, .ref (ad 3)), (3, .int x3), (5, .int x5)] [.int y0, .int y1] := by
  unfold pX0_aheadInRoundZero_b89 at hp
  refine ww_iadd X dX0_aheadInRoundZero_89 ?_
  refine ww_top (fun v1 hv1 => ?_)
  have hp := hp v1 hv1
  refine ww_istore X (lv' := [(4, .int v1), (0, .ref (ad 12)), (1, .int x1), (2, .ref (ad 3)), (3, .int x3), (5, .int x5)]) dX0_aheadInRoundZero_90 (by decide) rfl ?_
  refine ww_iinc X (v := (x5 + 1)) (lv' := [(5, .int (x5 + 1)), (4, .int v1), (0, .ref (ad 12)), (1, .int x1), (2, .ref (ad 3)), (3, .int x3)]) dX0_aheadInRoundZero_92 5 rfl rfl (by decide) rfl ?_
  refine ww_goto X (tgt := 21) dX0_aheadInRoundZero_95 (by decide) ?_
  exact ww_sub (lv' := [(0, .ref (ad 12)), (1, .int x1), (2, .ref (ad 3)), (3, .int x3), (4, .int v1), (5, .int (x5 + 1))]) [2, 3, 4, 5, 1, 0] rfl (hK21 x1 x3 v1 (x5 + 1) z hp)
set_option maxHeartbeats 4000000 in
set_option maxRecDepth 100000 in
theorem wX0_aheadInRoundZero_b75 {p : Program} {l : Launch} {e : Env} {s : State} {m : MethodId} {args : Array Value} {below : List Frame} {meth : Method} {c : Code} {D : va_G} {A : Nat → Prop} {ad : Nat → Nat} {cB cI cZ : ClassId} {post : Int32 → Sg → Prop} {K21 : Int32 → Int32 → Int32 → Int32 → Sg → Prop} (X : Cx p s m args meth c cX0_aheadInRoundZero 7 (some .int) RX0 wsX0_aheadInRoundZero D (tyL cB cI cZ) A) (hK21 : ∀ (x1 x3 x4 x5 : Int32) (z : Sg), K21 x1 x3 x4 x5 z → WW p l e rmX0_aheadInRoundZero s m args below meth c 7 D A (cW ad cB cI cZ) (QI below args s D (tyL cB cI cZ) (cW ad cB cI cZ) A post) z 21 [(0, .ref (ad 12)), (1, .int x1), (2, .ref (ad 3)), (3, .int x3), (4, .int x4), (5, .int x5)] []) (x1 x3 x4 x5 y0 : Int32) (z : Sg) (hp : pX0_aheadInRoundZero_b75 K21 post x1 x3 x4 x5 y0 z) : WW p l e rmX0_aheadInRoundZero s m args below meth c 7 D A (cW ad cB cI cZ) (QI below args s D (tyL cB cI cZ) (cW ad cB cI cZ) A post) z 75 [(0, .ref (ad 12)), (1, .int x1), (2, .ref (ad 3)), (3, .int x3), (4, .int x4), (5, .int x5)] [.int y0] := by
  unfold pX0_aheadInRoundZero_b75 at hp
  refine ww_istore X (lv' := [(6, .int y0), (0, .ref (ad 12)), (1, .int x1), (2, .ref (ad 3)), (3, .int x3), (4, .int x4), (5, .int x5)]) dX0_aheadInRoundZero_75 (by decide) rfl ?_
  refine ww_iload X dX0_aheadInRoundZero_77 5 rfl ?_
  refine ww_iload X dX0_aheadInRoundZero_79 0 rfl ?_
  refine ww_if_eq X (tgt := 88) dX0_aheadInRoundZero_81 (by decide) (fun h1 => ?_) (fun h1 => ?_)
  · have hp := hp.1 h1
    refine ww_iconst X (v := 0) dX0_aheadInRoundZero_88 (by decide) ?_
    exact ww_sub (lv' := [(0, .ref (ad 12)), (1, .int x1), (2, .ref (ad 3)), (3, .int x3), (5, .int x5)]) [1, 2, 3, 4, 6] rfl (wX0_aheadInRoundZero_b89 X hK21 x1 x3 x5 0 x4 z hp)
  · have hp := hp.2 h1
    refine ww_iconst X (v := 1) dX0_aheadInRoundZero_84 (by decide) ?_
    refine ww_goto X (tgt := 89) dX0_aheadInRoundZero_85 (by decide) ?_
    exact ww_sub (lv' := [(0, .ref (ad 12)), (1, .int x1), (2, .ref (ad 3)), (3, .int x3), (5, .int x5)]) [1, 2, 3, 4, 6] rfl (wX0_aheadInRoundZero_b89 X hK21 x1 x3 x5 1 x4 z hp)
set_option maxHeartbeats 4000000 in
set_option maxRecDepth 100000 in
theorem wX0_aheadInRoundZero_b74 {p : Program} {l : Launch} {e : Env} {s : State} {m : MethodId} {args : Array Value} {below : List Frame} {meth : Method} {c : Code} {D : va_G} {A : Nat → Prop} {ad : Nat → Nat} {cB cI cZ : ClassId} {post : Int32 → Sg → Prop} {K21 : Int32 → Int32 → Int32 → Int32 → Sg → Prop} (X : Cx p s m args meth c cX0_aheadInRoundZero 7 (some .int) RX0 wsX0_aheadInRoundZero D (tyL cB cI cZ) A) (hK21 : ∀ (x1 x3 x4 x5 : Int32) (z : Sg), K21 x1 x3 x4 x5 z → WW p l e rmX0_aheadInRoundZero s m args below meth c 7 D A (cW ad cB cI cZ) (QI below args s D (tyL cB cI cZ) (cW ad cB cI cZ) A post) z 21 [(0, .ref (ad 12)), (1, .int x1), (2, .ref (ad 3)), (3, .int x3), (4, .int x4), (5, .int x5)] []) (x1 x3 x4 x5 : Int32) (z : Sg) (hp : pX0_aheadInRoundZero_b74 K21 post x1 x3 x4 x5 z) : WW p l e rmX0_aheadInRoundZero s m args below meth c 7 D A (cW ad cB cI cZ) (QI below args s D (tyL cB cI cZ) (cW ad cB cI cZ) A post) z 74 [(0, .ref (ad 12)), (1, .int x1), (2, .ref (ad 3)), (3, .int x3), (4, .int x4), (5, .int x5)] [] := by
  unfold pX0_aheadInRoundZero_b74 at hp
  refine ww_iconst X (v := 0) dX0_aheadInRoundZero_74 (by decide) ?_
  exact wX0_aheadInRoundZero_b75 X hK21 x1 x3 x4 x5 0 z hp
set_option maxHeartbeats 4000000 in
set_option maxRecDepth 100000 in
theorem wX0_aheadInRoundZero_b70 {p : Program} {l : Launch} {e : Env} {s : State} {m : MethodId} {args : Array Value} {below : List Frame} {meth : Method} {c : Code} {D : va_G} {A : Nat → Prop} {ad : Nat → Nat} {cB cI cZ : ClassId} {post : Int32 → Sg → Prop} {K21 : Int32 → Int32 → Int32 → Int32 → Sg → Prop} (X : Cx p s m args meth c cX0_aheadInRoundZero 7 (some .int) RX0 wsX0_aheadInRoundZero D (tyL cB cI cZ) A) (hK21 : ∀ (x1 x3 x4 x5 : Int32) (z : Sg), K21 x1 x3 x4 x5 z → WW p l e rmX0_aheadInRoundZero s m args below meth c 7 D A (cW ad cB cI cZ) (QI below args s D (tyL cB cI cZ) (cW ad cB cI cZ) A post) z 21 [(0, .ref (ad 12)), (1, .int x1), (2, .ref (ad 3)), (3, .int x3), (4, .int x4), (5, .int x5)] []) (x1 x3 x4 x5 : Int32) (z : Sg) (hp : pX0_aheadInRoundZero_b70 K21 post x1 x3 x4 x5 z) : WW p l e rmX0_aheadInRoundZero s m args below meth c 7 D A (cW ad cB cI cZ) (QI below args s D (tyL cB cI cZ) (cW ad cB cI cZ) A post) z 70 [(0, .ref (ad 12)), (1, .int x1), (2, .ref (ad 3)), (3, .int x3), (4, .int x4), (5, .int x5)] [] := by
  unfold pX0_aheadInRoundZero_b70 at hp
  refine ww_iconst X (v := 1) dX0_aheadInRoundZero_70 (by decide) ?_
  refine ww_goto X (tgt := 75) dX0_aheadInRoundZero_71 (by decide) ?_
  exact wX0_aheadInRoundZero_b75 X hK21 x1 x3 x4 x5 1 z hp
set_option maxHeartbeats 4000000 in
set_option maxRecDepth 100000 in
theorem wX0_aheadInRoundZero_b21 {p : Program} {l : Launch} {e : Env} {s : State} {m : MethodId} {args : Array Value} {below : List Frame} {meth : Method} {c : Code} {D : va_G} {A : Nat → Prop} {ad : Nat → Nat} {cB cI cZ : ClassId} {post : Int32 → Sg → Prop} {K21 : Int32 → Int32 → Int32 → Int32 → Sg → Prop} (X : Cx p s m args meth c cX0_aheadInRoundZero 7 (some .int) RX0 wsX0_aheadInRoundZero D (tyL cB cI cZ) A) (hK21 : ∀ (x1 x3 x4 x5 : Int32) (z : Sg), K21 x1 x3 x4 x5 z → WW p l e rmX0_aheadInRoundZero s m args below meth c 7 D A (cW ad cB cI cZ) (QI below args s D (tyL cB cI cZ) (cW ad cB cI cZ) A post) z 21 [(0, .ref (ad 12)), (1, .int x1), (2, .ref (ad 3)), (3, .int x3), (4, .int x4), (5, .int x5)] []) (x1 x3 x4 x5 : Int32) (z : Sg) (hp : pX0_aheadInRoundZero_b21 K21 post x1 x3 x4 x5 z) : WW p l e rmX0_aheadInRoundZero s m args below meth c 7 D A (cW ad cB cI cZ) (QI below args s D (tyL cB cI cZ) (cW ad cB cI cZ) A post) z 21 [(0, .ref (ad 12)), (1, .int x1), (2, .ref (ad 3)), (3, .int x3), (4, .int x4), (5, .int x5)] [] := by
  unfold pX0_aheadInRoundZero_b21 at hp
  refine ww_iload X dX0_aheadInRoundZero_21 5 rfl ?_
  refine ww_bipush X (v := 24) dX0_aheadInRoundZero_23 (by decide) ?_
  refine ww_icmp_ge X (tgt := 98) dX0_aheadInRoundZero_25 (by decide) (fun h1 => ?_) (fun h1 => ?_)
  · have hp := hp.1 h1
    refine ww_iload X dX0_aheadInRoundZero_98 4 rfl ?_
    exact ww_iret X hp dX0_aheadInRoundZero_100
  · have hp := hp.2 h1
    refine ww_aload_n X dX0_aheadInRoundZero_28 0 rfl ?_
    refine ww_get X in_X0_aheadInRoundZero_X0 12 cg_12 rfl 0 (by decide) (X.wd 1 rfl) (v := .ref (ad 13)) rfl dX0_aheadInRoundZero_29 ?_
    refine ww_iload X dX0_aheadInRoundZero_32 5 rfl ?_
    obtain ⟨h2, hp⟩ := hp
    refine ww_iald X 13 1 cg_13 rfl (v := (gA z 8 x5)) h2 rfl dX0_aheadInRoundZero_34 ?_
    refine ww_aload_n X dX0_aheadInRoundZero_35 0 rfl ?_
    refine ww_get X in_X0_aheadInRoundZero_X0 12 cg_12 rfl 0 (by decide) (X.wd 1 rfl) (v := .ref (ad 13)) rfl dX0_aheadInRoundZero_36 ?_
    refine ww_iload_n X dX0_aheadInRoundZero_39 1 rfl ?_
    obtain ⟨h3, hp⟩ := hp
    refine ww_iald X 13 1 cg_13 rfl (v := (gA z 8 x1)) h3 rfl dX0_aheadInRoundZero_40 ?_
    refine ww_icmp_gt X (tgt := 70) dX0_aheadInRoundZero_41 (by decide) (fun h4 => ?_) (fun h4 => ?_)
    · have hp := hp.1 h4
      exact wX0_aheadInRoundZero_b70 X hK21 x1 x3 x4 x5 z hp
    · have hp := hp.2 h4
      refine ww_iload_n X dX0_aheadInRoundZero_44 3 rfl ?_
      refine ww_if_eq X (tgt := 74) dX0_aheadInRoundZero_45 (by decide) (fun h5 => ?_) (fun h5 => ?_)
      · have hp := hp.1 h5
        exact wX0_aheadInRoundZero_b74 X hK21 x1 x3 x4 x5 z hp
      · have hp := hp.2 h5
        refine ww_aload_n X dX0_aheadInRoundZero_48 0 rfl ?_
        refine ww_get X in_X0_aheadInRoundZero_X0 12 cg_12 rfl 0 (by decide) (X.wd 1 rfl) (v := .ref (ad 13)) rfl dX0_aheadInRoundZero_49 ?_
        refine ww_iload X dX0_aheadInRoundZero_52 5 rfl ?_
        obtain ⟨h6, hp⟩ := hp
        refine ww_iald X 13 1 cg_13 rfl (v := (gA z 8 x5)) h6 rfl dX0_aheadInRoundZero_54 ?_
        refine ww_aload_n X dX0_aheadInRoundZero_55 0 rfl ?_
        refine ww_get X in_X0_aheadInRoundZero_X0 12 cg_12 rfl 0 (by decide) (X.wd 1 rfl) (v := .ref (ad 13)) rfl dX0_aheadInRoundZero_56 ?_
        refine ww_iload_n X dX0_aheadInRoundZero_59 1 rfl ?_
        obtain ⟨h7, hp⟩ := hp
        refine ww_iald X 13 1 cg_13 rfl (v := (gA z 8 x1)) h7 rfl dX0_aheadInRoundZero_60 ?_
        refine ww_icmp_ne X (tgt := 74) dX0_aheadInRoundZero_61 (by decide) (fun h8 => ?_) (fun h8 => ?_)
        · have hp := hp.1 h8
          exact wX0_aheadInRoundZero_b74 X hK21 x1 x3 x4 x5 z hp
        · have hp := hp.2 h8
          refine ww_iload X dX0_aheadInRoundZero_64 5 rfl ?_
          refine ww_iload_n X dX0_aheadInRoundZero_66 1 rfl ?_
          refine ww_icmp_ge X (tgt := 74) dX0_aheadInRoundZero_67 (by decide) (fun h9 => ?_) (fun h9 => ?_)
          · have hp := hp.1 h9
            exact wX0_aheadInRoundZero_b74 X hK21 x1 x3 x4 x5 z hp
          · have hp := hp.2 h9
            exact wX0_aheadInRoundZero_b70 X hK21 x1 x3 x4 x5 z hp
set_option maxHeartbeats 4000000 in
set_option maxRecDepth 100000 in
theorem wX0_aheadInRoundZero_l21 {p : Program} {l : Launch} {e : Env} {s : State} {m : MethodId} {args : Array Value} {below : List Frame} {meth : Method} {c : Code} {D : va_G} {A : Nat → Prop} {ad : Nat → Nat} {cB cI cZ : ClassId} {post : Int32 → Sg → Prop}  (X : Cx p s m args meth c cX0_aheadInRoundZero 7 (some .int) RX0 wsX0_aheadInRoundZero D (tyL cB cI cZ) A)  (x1 x3 x4 x5 : Int32) (z : Sg) (hp : pX0_aheadInRoundZero_l21  post x1 x3 x4 x5 z) : WW p l e rmX0_aheadInRoundZero s m args below meth c 7 D A (cW ad cB cI cZ) (QI below args s D (tyL cB cI cZ) (cW ad cB cI cZ) A post) z 21 [(0, .ref (ad 12)), (1, .int x1), (2, .ref (ad 3)), (3, .int x3), (4, .int x4), (5, .int x5)] [] := by
  have key := lp_walk (F := (fun (K : Int32 × Int32 × Int32 × Int32 → Sg → Prop) (a : Int32 × Int32 × Int32 × Int32) (z : Sg) => pX0_aheadInRoundZero_b21 (fun (x1 x3 x4 x5 : Int32) z => K (x1, x3, x4, x5) z) post a.1 a.2.1 a.2.2.1 a.2.2.2 z)) (P := fun a z => WW p l e rmX0_aheadInRoundZero s m args below meth c 7 D A (cW ad cB cI cZ) (QI below args s D (tyL cB cI cZ) (cW ad cB cI cZ) A post) z 21 [(0, .ref (ad 12)), (1, .int a.1), (2, .ref (ad 3)), (3, .int a.2.1), (4, .int a.2.2.1), (5, .int a.2.2.2)] []) (fun K hK a z hp => wX0_aheadInRoundZero_b21 X (fun x1 x3 x4 x5 z h => hK (x1, x3, x4, x5) z h) a.1 a.2.1 a.2.2.1 a.2.2.2 z hp)
  exact key (x1, x3, x4, x5) z hp
set_option maxHeartbeats 4000000 in
set_option maxRecDepth 100000 in
theorem wX0_aheadInRoundZero_b14 {p : Program} {l : Launch} {e : Env} {s : State} {m : MethodId} {args : Array Value} {below : List Frame} {meth : Method} {c : Code} {D : va_G} {A : Nat → Prop} {ad : Nat → Nat} {cB cI cZ : ClassId} {post : Int32 → Sg → Prop}  (X : Cx p s m args meth c cX0_aheadInRoundZero 7 (some .int) RX0 wsX0_aheadInRoundZero D (tyL cB cI cZ) A)  (x1 y0 : Int32) (z : Sg) (hp : pX0_aheadInRoundZero_b14  post x1 y0 z) : WW p l e rmX0_aheadInRoundZero s m args below meth c 7 D A (cW ad cB cI cZ) (QI below args s D (tyL cB cI cZ) (cW ad cB cI cZ) A post) z 14 [(0, .ref (ad 12)), (1, .int x1), (2, .ref (ad 3))] [.int y0] := by
  unfold pX0_aheadInRoundZero_b14 at hp
  refine ww_istore_n X (lv' := [(3, .int y0), (0, .ref (ad 12)), (1, .int x1), (2, .ref (ad 3))]) dX0_aheadInRoundZero_14 (by decide) rfl ?_
  refine ww_iconst X (v := 0) dX0_aheadInRoundZero_15 (by decide) ?_
  refine ww_istore X (lv' := [(4, .int 0), (3, .int y0), (0, .ref (ad 12)), (1, .int x1), (2, .ref (ad 3))]) dX0_aheadInRoundZero_16 (by decide) rfl ?_
  refine ww_iconst X (v := 0) dX0_aheadInRoundZero_18 (by decide) ?_
  refine ww_istore X (lv' := [(5, .int 0), (4, .int 0), (3, .int y0), (0, .ref (ad 12)), (1, .int x1), (2, .ref (ad 3))]) dX0_aheadInRoundZero_19 (by decide) rfl ?_
  exact ww_sub (lv' := [(0, .ref (ad 12)), (1, .int x1), (2, .ref (ad 3)), (3, .int y0), (4, .int 0), (5, .int 0)]) [3, 4, 5, 2, 1, 0] rfl (wX0_aheadInRoundZero_l21 X  x1 y0 0 0 z hp)
set_option maxHeartbeats 4000000 in
set_option maxRecDepth 100000 in
theorem kX0_aheadInRoundZero (l : Launch) (D : va_G) (ad : Nat → Nat) (cB cI cZ : ClassId) (a1 : Int32) (z : Sg) (post : Int32 → Sg → Prop) (hp : pX0_aheadInRoundZero a1 z post) : Ci l D (tyL cB cI cZ) (cW ad cB cI cZ) yX0_aheadInRoundZero wsX0_aheadInRoundZero rmX0_aheadInRoundZero [.ref (ad 12), .int a1, .ref (ad 3)] z post := by
  refine Ci.of (cc := cX0_aheadInRoundZero) (maxL := 7) (ret := (some .int)) (by decide) rfl (Nat.le_of_ble_eq_true rfl) ?_
  intro p e s m args below meth c A X
  have X : Cx p s m args meth c cX0_aheadInRoundZero 7 (some .int) RX0 wsX0_aheadInRoundZero D (tyL cB cI cZ) A := X
  show WW p l e rmX0_aheadInRoundZero s m args below meth c 7 D A (cW ad cB cI cZ) (QI below args s D (tyL cB cI cZ) (cW ad cB cI cZ) A post) z 0 [(0, .ref (ad 12)), (1, .int a1), (2, .ref (ad 3))] []
  unfold pX0_aheadInRoundZero at hp
  refine ww_aload_n X dX0_aheadInRoundZero_0 2 rfl ?_
  refine ww_bipush X (v := 6) dX0_aheadInRoundZero_1 (by decide) ?_
  refine ww_callN_i X (As := [.int 6]) (rest := []) (kX2_number l D ad cB cI cZ 6 z _ hp) (⟨va_cnB 1 X.hts gX0_aheadInRoundZero_X2_number_n59 rfl rfl rfl (X.hE.2 _ (List.mem_of_getElem? (i := 40) rfl)) (X.wd 3 rfl) hn_X2_number ⟨Nat.le_of_ble_eq_true rfl, Nat.le_of_ble_eq_true rfl⟩, (X.wd 2 rfl), (X.wd 4 rfl)⟩) 3 2 cg_3 rfl rfl rfl rfl (Nat.le_of_ble_eq_true rfl) dX0_aheadInRoundZero_3 (fun r2 u1 hp => ?_)
  refine ww_if_ne X (tgt := 13) dX0_aheadInRoundZero_6 (by decide) (fun h3 => ?_) (fun h3 => ?_)
  · have hp := hp.1 h3
    refine ww_iconst X (v := 0) dX0_aheadInRoundZero_13 (by decide) ?_
    exact wX0_aheadInRoundZero_b14 X  a1 0 u1 hp
  · have hp := hp.2 h3
    refine ww_iconst X (v := 1) dX0_aheadInRoundZero_9 (by decide) ?_
    refine ww_goto X (tgt := 14) dX0_aheadInRoundZero_10 (by decide) ?_
    exact wX0_aheadInRoundZero_b14 X  a1 1 u1 hp
set_option maxHeartbeats 4000000 in
set_option maxRecDepth 100000 in
theorem wX0_isBetter_b44 {p : Program} {l : Launch} {e : Env} {s : State} {m : MethodId} {args : Array Value} {below : List Frame} {meth : Method} {c : Code} {D : va_G} {A : Nat → Prop} {ad : Nat → Nat} {cB cI cZ : ClassId} {post : Int32 → Sg → Prop}  (X : Cx p s m args meth c cX0_isBetter 3 (some .boolean) RX0 wsX0_isBetter D (tyL cB cI cZ) A)  (y0 : Int32) (z : Sg) (hp : pX0_isBetter_b44  post y0 z) : WW p l e rmX0_isBetter s m args below meth c 3 D A (cW ad cB cI cZ) (QI below args s D (tyL cB cI cZ) (cW ad cB cI cZ) A post) z 44 [(0, .ref (ad 12))] [.int y0] := by
  unfold pX0_isBetter_b44 at hp
  exact ww_zret X hp.1 hp.2 dX0_isBetter_44
set_option maxHeartbeats 4000000 in
set_option maxRecDepth 100000 in
theorem kX0_isBetter (l : Launch) (D : va_G) (ad : Nat → Nat) (cB cI cZ : ClassId) (a1 a2 : Int32) (z : Sg) (post : Int32 → Sg → Prop) (hp : pX0_isBetter a1 a2 z post) : Ci l D (tyL cB cI cZ) (cW ad cB cI cZ) yX0_isBetter wsX0_isBetter rmX0_isBetter [.ref (ad 12), .int a1, .int a2] z post := by
  refine Ci.of (cc := cX0_isBetter) (maxL := 3) (ret := (some .boolean)) (by decide) rfl (Nat.le_of_ble_eq_true rfl) ?_
  intro p e s m args below meth c A X
  have X : Cx p s m args meth c cX0_isBetter 3 (some .boolean) RX0 wsX0_isBetter D (tyL cB cI cZ) A := X
  show WW p l e rmX0_isBetter s m args below meth c 3 D A (cW ad cB cI cZ) (QI below args s D (tyL cB cI cZ) (cW ad cB cI cZ) A post) z 0 [(0, .ref (ad 12)), (1, .int a1), (2, .int a2)] []
  unfold pX0_isBetter at hp
  refine ww_aload_n X dX0_isBetter_0 0 rfl ?_
  refine ww_get X in_X0_isBetter_X0 12 cg_12 rfl 1 (by decide) (X.wd 1 rfl) (v := .ref (ad 14)) rfl dX0_isBetter_1 ?_
  refine ww_iload_n X dX0_isBetter_4 1 rfl ?_
  obtain ⟨h1, hp⟩ := hp
  refine ww_zald X 14 2 cg_14 rfl (v := (gA z 9 a1)) h1 rfl dX0_isBetter_5 ?_
  refine ww_aload_n X dX0_isBetter_6 0 rfl ?_
  refine ww_get X in_X0_isBetter_X0 12 cg_12 rfl 1 (by decide) (X.wd 1 rfl) (v := .ref (ad 14)) rfl dX0_isBetter_7 ?_
  refine ww_iload_n X dX0_isBetter_10 2 rfl ?_
  obtain ⟨h2, hp⟩ := hp
  refine ww_zald X 14 2 cg_14 rfl (v := (gA z 9 a2)) h2 rfl dX0_isBetter_11 ?_
  refine ww_icmp_ne X (tgt := 38) dX0_isBetter_12 (by decide) (fun h3 => ?_) (fun h3 => ?_)
  · have hp := hp.1 h3
    refine ww_aload_n X dX0_isBetter_38 0 rfl ?_
    refine ww_get X in_X0_isBetter_X0 12 cg_12 rfl 1 (by decide) (X.wd 1 rfl) (v := .ref (ad 14)) rfl dX0_isBetter_39 ?_
    refine ww_iload_n X dX0_isBetter_42 1 rfl ?_
    obtain ⟨h4, hp⟩ := hp
    refine ww_zald X 14 2 cg_14 rfl (v := (gA z 9 a1)) h4 rfl dX0_isBetter_43 ?_
    exact ww_sub (lv' := [(0, .ref (ad 12))]) [0] rfl (wX0_isBetter_b44 X  (gA z 9 a1) z hp)
  · have hp := hp.2 h3
    refine ww_aload_n X dX0_isBetter_15 0 rfl ?_
    refine ww_get X in_X0_isBetter_X0 12 cg_12 rfl 2 (by decide) (X.wd 2 rfl) (v := .ref (ad 15)) rfl dX0_isBetter_16 ?_
    refine ww_iload_n X dX0_isBetter_19 1 rfl ?_
    obtain ⟨h5, hp⟩ := hp
    refine ww_iald X 15 1 cg_15 rfl (v := (gA z 10 a1)) h5 rfl dX0_isBetter_20 ?_
    refine ww_aload_n X dX0_isBetter_21 0 rfl ?_
    refine ww_get X in_X0_isBetter_X0 12 cg_12 rfl 2 (by decide) (X.wd 2 rfl) (v := .ref (ad 15)) rfl dX0_isBetter_22 ?_
    refine ww_iload_n X dX0_isBetter_25 2 rfl ?_
    obtain ⟨h6, hp⟩ := hp
    refine ww_iald X 15 1 cg_15 rfl (v := (gA z 10 a2)) h6 rfl dX0_isBetter_26 ?_
    refine ww_icmp_le X (tgt := 34) dX0_isBetter_27 (by decide) (fun h7 => ?_) (fun h7 => ?_)
    · have hp := hp.1 h7
      refine ww_iconst X (v := 0) dX0_isBetter_34 (by decide) ?_
      refine ww_goto X (tgt := 44) dX0_isBetter_35 (by decide) ?_
      exact ww_sub (lv' := [(0, .ref (ad 12))]) [0] rfl (wX0_isBetter_b44 X  0 z hp)
    · have hp := hp.2 h7
      refine ww_iconst X (v := 1) dX0_isBetter_30 (by decide) ?_
      refine ww_goto X (tgt := 44) dX0_isBetter_31 (by decide) ?_
      exact ww_sub (lv' := [(0, .ref (ad 12))]) [0] rfl (wX0_isBetter_b44 X  1 z hp)
set_option maxHeartbeats 4000000 in
set_option maxRecDepth 100000 in
theorem wX0_placeOnList_b140 {p : Program} {l : Launch} {e : Env} {s : State} {m : MethodId} {args : Array Value} {below : List Frame} {meth : Method} {c : Code} {D : va_G} {A : Nat → Prop} {ad : Nat → Nat} {cB cI cZ : ClassId} {post : Sg → Prop}  (X : Cx p s m args meth c cX0_placeOnList 5 none RX0 wsX0_placeOnList D (tyL cB cI cZ) A)  (z : Sg) (hp : pX0_placeOnList_b140  post  z) : WW p l e rmX0_placeOnList s m args below meth c 5 D A (cW ad cB cI cZ) (QV below args s D (tyL cB cI cZ) (cW ad cB cI cZ) A post) z 140 [(0, .ref (ad 12))] [] := by
  unfold pX0_placeOnList_b140 at hp
  exact ww_vret X hp dX0_placeOnList_140
set_option maxHeartbeats 4000000 in
set_option maxRecDepth 100000 in
theorem wX0_placeOnList_b105 {p : Program} {l : Launch} {e : Env} {s : State} {m : MethodId} {args : Array Value} {below : List Frame} {meth : Method} {c : Code} {D : va_G} {A : Nat → Prop} {ad : Nat → Nat} {cB cI cZ : ClassId} {post : Sg → Prop} {K24 : Int32 → Int32 → Int32 → Int32 → Sg → Prop} (X : Cx p s m args meth c cX0_placeOnList 5 none RX0 wsX0_placeOnList D (tyL cB cI cZ) A) (hK24 : ∀ (x1 x2 x3 x4 : Int32) (z : Sg), K24 x1 x2 x3 x4 z → WW p l e rmX0_placeOnList s m args below meth c 5 D A (cW ad cB cI cZ) (QV below args s D (tyL cB cI cZ) (cW ad cB cI cZ) A post) z 24 [(0, .ref (ad 12)), (1, .int x1), (2, .int x2), (3, .int x3), (4, .int x4)] []) (x1 x2 x3 x4 : Int32) (z : Sg) (hp : pX0_placeOnList_b105 K24 post x1 x2 x3 x4 z) : WW p l e rmX0_placeOnList s m args below meth c 5 D A (cW ad cB cI cZ) (QV below args s D (tyL cB cI cZ) (cW ad cB cI cZ) A post) z 105 [(0, .ref (ad 12)), (1, .int x1), (2, .int x2), (3, .int x3), (4, .int x4)] [] := by
  unfold pX0_placeOnList_b105 at hp
  refine ww_iinc X (v := (x4 + 1)) (lv' := [(4, .int (x4 + 1)), (0, .ref (ad 12)), (1, .int x1), (2, .int x2), (3, .int x3)]) dX0_placeOnList_105 4 rfl rfl (by decide) rfl ?_
  refine ww_goto X (tgt := 24) dX0_placeOnList_108 (by decide) ?_
  exact ww_sub (lv' := [(0, .ref (ad 12)), (1, .int x1), (2, .int x2), (3, .int x3), (4, .int (x4 + 1))]) [1, 2, 3, 4, 0] rfl (hK24 x1 x2 x3 (x4 + 1) z hp)
set_option maxHeartbeats 4000000 in
set_option maxRecDepth 100000 in
theorem wX0_placeOnList_b103 {p : Program} {l : Launch} {e : Env} {s : State} {m : MethodId} {args : Array Value} {below : List Frame} {meth : Method} {c : Code} {D : va_G} {A : Nat → Prop} {ad : Nat → Nat} {cB cI cZ : ClassId} {post : Sg → Prop} {K24 : Int32 → Int32 → Int32 → Int32 → Sg → Prop} (X : Cx p s m args meth c cX0_placeOnList 5 none RX0 wsX0_placeOnList D (tyL cB cI cZ) A) (hK24 : ∀ (x1 x2 x3 x4 : Int32) (z : Sg), K24 x1 x2 x3 x4 z → WW p l e rmX0_placeOnList s m args below meth c 5 D A (cW ad cB cI cZ) (QV below args s D (tyL cB cI cZ) (cW ad cB cI cZ) A post) z 24 [(0, .ref (ad 12)), (1, .int x1), (2, .int x2), (3, .int x3), (4, .int x4)] []) (x1 x2 x4 y0 y1 : Int32) (z : Sg) (hp : pX0_placeOnList_b103 K24 post x1 x2 x4 y0 y1 z) : WW p l e rmX0_placeOnList s m args below meth c 5 D A (cW ad cB cI cZ) (QV below args s D (tyL cB cI cZ) (cW ad cB cI cZ) A post) z 103 [(0, .ref (ad 12)), (1, .int x1), (2, .int x2), (4, .int x4)] [.int y0, .int y1] := by
  unfold pX0_placeOnList_b103 at hp
  refine ww_iadd X dX0_placeOnList_103 ?_
  refine ww_top (fun v1 hv1 => ?_)
  have hp := hp v1 hv1
  refine ww_istore_n X (lv' := [(3, .int v1), (0, .ref (ad 12)), (1, .int x1), (2, .int x2), (4, .int x4)]) dX0_placeOnList_104 (by decide) rfl ?_
  exact ww_sub (lv' := [(0, .ref (ad 12)), (1, .int x1), (2, .int x2), (3, .int v1), (4, .int x4)]) [1, 2, 3, 0, 4] rfl (wX0_placeOnList_b105 X hK24 x1 x2 v1 x4 z hp)
set_option maxHeartbeats 4000000 in
set_option maxRecDepth 100000 in
theorem wX0_placeOnList_b102 {p : Program} {l : Launch} {e : Env} {s : State} {m : MethodId} {args : Array Value} {below : List Frame} {meth : Method} {c : Code} {D : va_G} {A : Nat → Prop} {ad : Nat → Nat} {cB cI cZ : ClassId} {post : Sg → Prop} {K24 : Int32 → Int32 → Int32 → Int32 → Sg → Prop} (X : Cx p s m args meth c cX0_placeOnList 5 none RX0 wsX0_placeOnList D (tyL cB cI cZ) A) (hK24 : ∀ (x1 x2 x3 x4 : Int32) (z : Sg), K24 x1 x2 x3 x4 z → WW p l e rmX0_placeOnList s m args below meth c 5 D A (cW ad cB cI cZ) (QV below args s D (tyL cB cI cZ) (cW ad cB cI cZ) A post) z 24 [(0, .ref (ad 12)), (1, .int x1), (2, .int x2), (3, .int x3), (4, .int x4)] []) (x1 x2 x4 y0 : Int32) (z : Sg) (hp : pX0_placeOnList_b102 K24 post x1 x2 x4 y0 z) : WW p l e rmX0_placeOnList s m args below meth c 5 D A (cW ad cB cI cZ) (QV below args s D (tyL cB cI cZ) (cW ad cB cI cZ) A post) z 102 [(0, .ref (ad 12)), (1, .int x1), (2, .int x2), (4, .int x4)] [.int y0] := by
  unfold pX0_placeOnList_b102 at hp
  refine ww_iconst X (v := 0) dX0_placeOnList_102 (by decide) ?_
  exact wX0_placeOnList_b103 X hK24 x1 x2 x4 0 y0 z hp
set_option maxHeartbeats 4000000 in
set_option maxRecDepth 100000 in
theorem wX0_placeOnList_b57 {p : Program} {l : Launch} {e : Env} {s : State} {m : MethodId} {args : Array Value} {below : List Frame} {meth : Method} {c : Code} {D : va_G} {A : Nat → Prop} {ad : Nat → Nat} {cB cI cZ : ClassId} {post : Sg → Prop} {K24 : Int32 → Int32 → Int32 → Int32 → Sg → Prop} (X : Cx p s m args meth c cX0_placeOnList 5 none RX0 wsX0_placeOnList D (tyL cB cI cZ) A) (hK24 : ∀ (x1 x2 x3 x4 : Int32) (z : Sg), K24 x1 x2 x3 x4 z → WW p l e rmX0_placeOnList s m args below meth c 5 D A (cW ad cB cI cZ) (QV below args s D (tyL cB cI cZ) (cW ad cB cI cZ) A post) z 24 [(0, .ref (ad 12)), (1, .int x1), (2, .int x2), (3, .int x3), (4, .int x4)] []) (x1 x3 x4 y0 y1 : Int32) (z : Sg) (hp : pX0_placeOnList_b57 K24 post x1 x3 x4 y0 y1 z) : WW p l e rmX0_placeOnList s m args below meth c 5 D A (cW ad cB cI cZ) (QV below args s D (tyL cB cI cZ) (cW ad cB cI cZ) A post) z 57 [(0, .ref (ad 12)), (1, .int x1), (3, .int x3), (4, .int x4)] [.int y0, .int y1] := by
  unfold pX0_placeOnList_b57 at hp
  refine ww_iadd X dX0_placeOnList_57 ?_
  refine ww_top (fun v1 hv1 => ?_)
  have hp := hp v1 hv1
  refine ww_istore_n X (lv' := [(2, .int v1), (0, .ref (ad 12)), (1, .int x1), (3, .int x3), (4, .int x4)]) dX0_placeOnList_58 (by decide) rfl ?_
  refine ww_iload_n X dX0_placeOnList_59 3 rfl ?_
  refine ww_iload X dX0_placeOnList_60 4 rfl ?_
  refine ww_iload_n X dX0_placeOnList_62 2 rfl ?_
  refine ww_icmp_ge X (tgt := 102) dX0_placeOnList_63 (by decide) (fun h2 => ?_) (fun h2 => ?_)
  · have hp := hp.1 h2
    exact ww_sub (lv' := [(0, .ref (ad 12)), (1, .int x1), (2, .int v1), (4, .int x4)]) [1, 2, 0, 4] rfl (wX0_placeOnList_b102 X hK24 x1 v1 x4 x3 z hp)
  · have hp := hp.2 h2
    refine ww_aload_n X dX0_placeOnList_66 1 rfl ?_
    refine ww_get X in_X0_placeOnList_X0 12 cg_12 rfl 1 (by decide) (X.wd 3 rfl) (v := .ref (ad 14)) rfl dX0_placeOnList_67 ?_
    refine ww_iload X dX0_placeOnList_70 4 rfl ?_
    obtain ⟨h3, hp⟩ := hp
    refine ww_zald X 14 2 cg_14 rfl (v := (gA z 9 x4)) h3 rfl dX0_placeOnList_72 ?_
    refine ww_aload_n X dX0_placeOnList_73 1 rfl ?_
    refine ww_get X in_X0_placeOnList_X0 12 cg_12 rfl 1 (by decide) (X.wd 3 rfl) (v := .ref (ad 14)) rfl dX0_placeOnList_74 ?_
    refine ww_iload_n X dX0_placeOnList_77 2 rfl ?_
    obtain ⟨h4, hp⟩ := hp
    refine ww_zald X 14 2 cg_14 rfl (v := (gA z 9 x1)) h4 rfl dX0_placeOnList_78 ?_
    refine ww_icmp_ne X (tgt := 102) dX0_placeOnList_79 (by decide) (fun h5 => ?_) (fun h5 => ?_)
    · have hp := hp.1 h5
      exact ww_sub (lv' := [(0, .ref (ad 12)), (1, .int x1), (2, .int v1), (4, .int x4)]) [1, 2, 0, 4] rfl (wX0_placeOnList_b102 X hK24 x1 v1 x4 x3 z hp)
    · have hp := hp.2 h5
      refine ww_aload_n X dX0_placeOnList_82 1 rfl ?_
      refine ww_get X in_X0_placeOnList_X0 12 cg_12 rfl 2 (by decide) (X.wd 4 rfl) (v := .ref (ad 15)) rfl dX0_placeOnList_83 ?_
      refine ww_iload X dX0_placeOnList_86 4 rfl ?_
      obtain ⟨h6, hp⟩ := hp
      refine ww_iald X 15 1 cg_15 rfl (v := (gA z 10 x4)) h6 rfl dX0_placeOnList_88 ?_
      refine ww_aload_n X dX0_placeOnList_89 1 rfl ?_
      refine ww_get X in_X0_placeOnList_X0 12 cg_12 rfl 2 (by decide) (X.wd 4 rfl) (v := .ref (ad 15)) rfl dX0_placeOnList_90 ?_
      refine ww_iload_n X dX0_placeOnList_93 2 rfl ?_
      obtain ⟨h7, hp⟩ := hp
      refine ww_iald X 15 1 cg_15 rfl (v := (gA z 10 x1)) h7 rfl dX0_placeOnList_94 ?_
      refine ww_icmp_ne X (tgt := 102) dX0_placeOnList_95 (by decide) (fun h8 => ?_) (fun h8 => ?_)
      · have hp := hp.1 h8
        exact ww_sub (lv' := [(0, .ref (ad 12)), (1, .int x1), (2, .int v1), (4, .int x4)]) [1, 2, 0, 4] rfl (wX0_placeOnList_b102 X hK24 x1 v1 x4 x3 z hp)
      · have hp := hp.2 h8
        refine ww_iconst X (v := 1) dX0_placeOnList_98 (by decide) ?_
        refine ww_goto X (tgt := 103) dX0_placeOnList_99 (by decide) ?_
        exact ww_sub (lv' := [(0, .ref (ad 12)), (1, .int x1), (2, .int v1), (4, .int x4)]) [1, 2, 0, 4] rfl (wX0_placeOnList_b103 X hK24 x1 v1 x4 1 x3 z hp)
set_option maxHeartbeats 4000000 in
set_option maxRecDepth 100000 in
theorem wX0_placeOnList_b24 {p : Program} {l : Launch} {e : Env} {s : State} {m : MethodId} {args : Array Value} {below : List Frame} {meth : Method} {c : Code} {D : va_G} {A : Nat → Prop} {ad : Nat → Nat} {cB cI cZ : ClassId} {post : Sg → Prop} {K24 : Int32 → Int32 → Int32 → Int32 → Sg → Prop} (X : Cx p s m args meth c cX0_placeOnList 5 none RX0 wsX0_placeOnList D (tyL cB cI cZ) A) (hK24 : ∀ (x1 x2 x3 x4 : Int32) (z : Sg), K24 x1 x2 x3 x4 z → WW p l e rmX0_placeOnList s m args below meth c 5 D A (cW ad cB cI cZ) (QV below args s D (tyL cB cI cZ) (cW ad cB cI cZ) A post) z 24 [(0, .ref (ad 12)), (1, .int x1), (2, .int x2), (3, .int x3), (4, .int x4)] []) (x1 x2 x3 x4 : Int32) (z : Sg) (hp : pX0_placeOnList_b24 K24 post x1 x2 x3 x4 z) : WW p l e rmX0_placeOnList s m args below meth c 5 D A (cW ad cB cI cZ) (QV below args s D (tyL cB cI cZ) (cW ad cB cI cZ) A post) z 24 [(0, .ref (ad 12)), (1, .int x1), (2, .int x2), (3, .int x3), (4, .int x4)] [] := by
  unfold pX0_placeOnList_b24 at hp
  refine ww_iload X dX0_placeOnList_24 4 rfl ?_
  refine ww_bipush X (v := 24) dX0_placeOnList_26 (by decide) ?_
  refine ww_icmp_ge X (tgt := 111) dX0_placeOnList_28 (by decide) (fun h1 => ?_) (fun h1 => ?_)
  · have hp := hp.1 h1
    refine ww_aload_n X dX0_placeOnList_111 0 rfl ?_
    refine ww_get X in_X0_placeOnList_X0 12 cg_12 rfl 3 (by decide) (X.wd 1 rfl) (v := .ref (ad 16)) rfl dX0_placeOnList_112 ?_
    refine ww_iload_n X dX0_placeOnList_115 1 rfl ?_
    refine ww_iconst X (v := 1) dX0_placeOnList_116 (by decide) ?_
    refine ww_iload_n X dX0_placeOnList_117 2 rfl ?_
    refine ww_iadd X dX0_placeOnList_118 ?_
    obtain ⟨h2, hp⟩ := hp
    refine ww_iast X 16 1 cg_16 rfl (sg' := (sA z 11 x1 (1 + x2))) h2 ca_16 dX0_placeOnList_119 ?_
    refine ww_iload_n X dX0_placeOnList_120 2 rfl ?_
    refine ww_iload_n X dX0_placeOnList_121 3 rfl ?_
    refine ww_iadd X dX0_placeOnList_122 ?_
    refine ww_top (fun v3 hv3 => ?_)
    have hp := hp v3 hv3
    refine ww_istore X (lv' := [(4, .int v3), (0, .ref (ad 12)), (1, .int x1), (2, .int x2), (3, .int x3)]) dX0_placeOnList_123 (by decide) rfl ?_
    refine ww_iload X dX0_placeOnList_125 0 rfl ?_
    refine ww_bipush X (v := 24) dX0_placeOnList_127 (by decide) ?_
    refine ww_icmp_ge X (tgt := 140) dX0_placeOnList_129 (by decide) (fun h4 => ?_) (fun h4 => ?_)
    · have hp := hp.1 h4
      exact ww_sub (lv' := [(0, .ref (ad 12))]) [1] rfl (wX0_placeOnList_b140 X   (sA z 11 x1 (1 + x2)) hp)
    · have hp := hp.2 h4
      refine ww_aload_n X dX0_placeOnList_132 1 rfl ?_
      refine ww_get X in_X0_placeOnList_X0 12 cg_12 rfl 4 (by decide) (X.wd 5 rfl) (v := .ref (ad 17)) rfl dX0_placeOnList_133 ?_
      refine ww_iload X dX0_placeOnList_136 0 rfl ?_
      refine ww_iload_n X dX0_placeOnList_138 2 rfl ?_
      obtain ⟨h5, hp⟩ := hp
      refine ww_iast X 17 1 cg_17 rfl (sg' := (sA (sA z 11 x1 (1 + x2)) 12 v3 x1)) h5 ca_17 dX0_placeOnList_139 ?_
      exact ww_sub (lv' := [(0, .ref (ad 12))]) [1] rfl (wX0_placeOnList_b140 X   (sA (sA z 11 x1 (1 + x2)) 12 v3 x1) hp)
  · have hp := hp.2 h1
    refine ww_aload_n X dX0_placeOnList_31 0 rfl ?_
    refine ww_get X in_X0_placeOnList_X0 12 cg_12 rfl 0 (by decide) (X.wd 2 rfl) (v := .ref (ad 13)) rfl dX0_placeOnList_32 ?_
    refine ww_iload X dX0_placeOnList_35 4 rfl ?_
    obtain ⟨h6, hp⟩ := hp
    refine ww_iald X 13 1 cg_13 rfl (v := (gA z 8 x4)) h6 rfl dX0_placeOnList_37 ?_
    refine ww_if_lt X (tgt := 105) dX0_placeOnList_38 (by decide) (fun h7 => ?_) (fun h7 => ?_)
    · have hp := hp.1 h7
      exact wX0_placeOnList_b105 X hK24 x1 x2 x3 x4 z hp
    · have hp := hp.2 h7
      refine ww_iload_n X dX0_placeOnList_41 2 rfl ?_
      refine ww_aload_n X dX0_placeOnList_42 0 rfl ?_
      refine ww_iload X dX0_placeOnList_43 4 rfl ?_
      refine ww_iload_n X dX0_placeOnList_45 1 rfl ?_
      refine ww_callV_i X (As := [.int x4, .int x1]) (rest := [.int x2]) (kX0_isBetter l D ad cB cI cZ x4 x1 z _ hp) (cwV 2 X.hts gX0_placeOnList_X0_isBetter rfl rfl rfl hd_X0_isBetter ⟨Nat.le_of_ble_eq_true rfl, Nat.le_of_ble_eq_true rfl⟩) 12 0 cg_12 rfl rfl rfl rfl (Nat.le_of_ble_eq_true rfl) dX0_placeOnList_46 (fun r9 u8 hp => ?_)
      refine ww_if_eq X (tgt := 56) dX0_placeOnList_49 (by decide) (fun h10 => ?_) (fun h10 => ?_)
      · have hp := hp.1 h10
        refine ww_iconst X (v := 0) dX0_placeOnList_56 (by decide) ?_
        exact ww_sub (lv' := [(0, .ref (ad 12)), (1, .int x1), (3, .int x3), (4, .int x4)]) [0, 1, 3, 4] rfl (wX0_placeOnList_b57 X hK24 x1 x3 x4 0 x2 u8 hp)
      · have hp := hp.2 h10
        refine ww_iconst X (v := 1) dX0_placeOnList_52 (by decide) ?_
        refine ww_goto X (tgt := 57) dX0_placeOnList_53 (by decide) ?_
        exact ww_sub (lv' := [(0, .ref (ad 12)), (1, .int x1), (3, .int x3), (4, .int x4)]) [0, 1, 3, 4] rfl (wX0_placeOnList_b57 X hK24 x1 x3 x4 1 x2 u8 hp)
set_option maxHeartbeats 4000000 in
set_option maxRecDepth 100000 in
theorem wX0_placeOnList_l24 {p : Program} {l : Launch} {e : Env} {s : State} {m : MethodId} {args : Array Value} {below : List Frame} {meth : Method} {c : Code} {D : va_G} {A : Nat → Prop} {ad : Nat → Nat} {cB cI cZ : ClassId} {post : Sg → Prop}  (X : Cx p s m args meth c cX0_placeOnList 5 none RX0 wsX0_placeOnList D (tyL cB cI cZ) A)  (x1 x2 x3 x4 : Int32) (z : Sg) (hp : pX0_placeOnList_l24  post x1 x2 x3 x4 z) : WW p l e rmX0_placeOnList s m args below meth c 5 D A (cW ad cB cI cZ) (QV below args s D (tyL cB cI cZ) (cW ad cB cI cZ) A post) z 24 [(0, .ref (ad 12)), (1, .int x1), (2, .int x2), (3, .int x3), (4, .int x4)] [] := by
  have key := lp_walk (F := (fun (K : Int32 × Int32 × Int32 × Int32 → Sg → Prop) (a : Int32 × Int32 × Int32 × Int32) (z : Sg) => pX0_placeOnList_b24 (fun (x1 x2 x3 x4 : Int32) z => K (x1, x2, x3, x4) z) post a.1 a.2.1 a.2.2.1 a.2.2.2 z)) (P := fun a z => WW p l e rmX0_placeOnList s m args below meth c 5 D A (cW ad cB cI cZ) (QV below args s D (tyL cB cI cZ) (cW ad cB cI cZ) A post) z 24 [(0, .ref (ad 12)), (1, .int a.1), (2, .int a.2.1), (3, .int a.2.2.1), (4, .int a.2.2.2)] []) (fun K hK a z hp => wX0_placeOnList_b24 X (fun x1 x2 x3 x4 z h => hK (x1, x2, x3, x4) z h) a.1 a.2.1 a.2.2.1 a.2.2.2 z hp)
  exact key (x1, x2, x3, x4) z hp
set_option maxHeartbeats 4000000 in
set_option maxRecDepth 100000 in
theorem kX0_placeOnList (l : Launch) (D : va_G) (ad : Nat → Nat) (cB cI cZ : ClassId) (a1 : Int32) (z : Sg) (post : Sg → Prop) (hp : pX0_placeOnList a1 z post) : Cv l D (tyL cB cI cZ) (cW ad cB cI cZ) yX0_placeOnList wsX0_placeOnList rmX0_placeOnList [.ref (ad 12), .int a1] z post := by
  refine Cv.of (cc := cX0_placeOnList) (maxL := 5) (ret := none) (by decide) rfl (Nat.le_of_ble_eq_true rfl) ?_
  intro p e s m args below meth c A X
  have X : Cx p s m args meth c cX0_placeOnList 5 none RX0 wsX0_placeOnList D (tyL cB cI cZ) A := X
  show WW p l e rmX0_placeOnList s m args below meth c 5 D A (cW ad cB cI cZ) (QV below args s D (tyL cB cI cZ) (cW ad cB cI cZ) A post) z 0 [(0, .ref (ad 12)), (1, .int a1)] []
  unfold pX0_placeOnList at hp
  refine ww_aload_n X dX0_placeOnList_0 0 rfl ?_
  refine ww_get X in_X0_placeOnList_X0 12 cg_12 rfl 3 (by decide) (X.wd 1 rfl) (v := .ref (ad 16)) rfl dX0_placeOnList_1 ?_
  refine ww_iload_n X dX0_placeOnList_4 1 rfl ?_
  refine ww_iconst X (v := 0) dX0_placeOnList_5 (by decide) ?_
  obtain ⟨h1, hp⟩ := hp
  refine ww_iast X 16 1 cg_16 rfl (sg' := (sA z 11 a1 0)) h1 ca_16 dX0_placeOnList_6 ?_
  refine ww_aload_n X dX0_placeOnList_7 0 rfl ?_
  refine ww_get X in_X0_placeOnList_X0 12 cg_12 rfl 0 (by decide) (X.wd 2 rfl) (v := .ref (ad 13)) rfl dX0_placeOnList_8 ?_
  refine ww_iload_n X dX0_placeOnList_11 1 rfl ?_
  obtain ⟨h2, hp⟩ := hp
  refine ww_iald X 13 1 cg_13 rfl (v := (gA z 8 a1)) h2 rfl dX0_placeOnList_12 ?_
  refine ww_if_ge X (tgt := 17) dX0_placeOnList_13 (by decide) (fun h3 => ?_) (fun h3 => ?_)
  · have hp := hp.1 h3
    refine ww_iconst X (v := 0) dX0_placeOnList_17 (by decide) ?_
    refine ww_istore_n X (lv' := [(2, .int 0), (0, .ref (ad 12)), (1, .int a1)]) dX0_placeOnList_18 (by decide) rfl ?_
    refine ww_iconst X (v := 0) dX0_placeOnList_19 (by decide) ?_
    refine ww_istore_n X (lv' := [(3, .int 0), (2, .int 0), (0, .ref (ad 12)), (1, .int a1)]) dX0_placeOnList_20 (by decide) rfl ?_
    refine ww_iconst X (v := 0) dX0_placeOnList_21 (by decide) ?_
    refine ww_istore X (lv' := [(4, .int 0), (3, .int 0), (2, .int 0), (0, .ref (ad 12)), (1, .int a1)]) dX0_placeOnList_22 (by decide) rfl ?_
    exact ww_sub (lv' := [(0, .ref (ad 12)), (1, .int a1), (2, .int 0), (3, .int 0), (4, .int 0)]) [3, 4, 2, 1, 0] rfl (wX0_placeOnList_l24 X  a1 0 0 0 (sA z 11 a1 0) hp)
  · have hp := hp.2 h3
    exact ww_vret X hp dX0_placeOnList_16
set_option maxHeartbeats 4000000 in
set_option maxRecDepth 100000 in
theorem wX0_draw_b235 {p : Program} {l : Launch} {e : Env} {s : State} {m : MethodId} {args : Array Value} {below : List Frame} {meth : Method} {c : Code} {D : va_G} {A : Nat → Prop} {ad : Nat → Nat} {cB cI cZ : ClassId} {post : Sg → Prop} {K235 : Int32 → Sg → Prop} (X : Cx p s m args meth c cX0_draw 6 none RX0 wsX0_draw D (tyL cB cI cZ) A) (hK235 : ∀ (x4 : Int32) (z : Sg), K235 x4 z → WW p l e rmX0_draw s m args below meth c 6 D A (cW ad cB cI cZ) (QV below args s D (tyL cB cI cZ) (cW ad cB cI cZ) A post) z 235 [(0, .ref (ad 12)), (1, .ref (ad 2)), (4, .int x4)] []) (x4 : Int32) (z : Sg) (hp : pX0_draw_b235 K235 post x4 z) : WW p l e rmX0_draw s m args below meth c 6 D A (cW ad cB cI cZ) (QV below args s D (tyL cB cI cZ) (cW ad cB cI cZ) A post) z 235 [(0, .ref (ad 12)), (1, .ref (ad 2)), (4, .int x4)] [] := by
  unfold pX0_draw_b235 at hp
  refine ww_iload X dX0_draw_235 2 rfl ?_
  refine ww_bipush X (v := 24) dX0_draw_237 (by decide) ?_
  refine ww_icmp_ge X (tgt := 254) dX0_draw_239 (by decide) (fun h1 => ?_) (fun h1 => ?_)
  · have hp := hp.1 h1
    exact ww_vret X hp dX0_draw_254
  · have hp := hp.2 h1
    refine ww_aload_n X dX0_draw_242 0 rfl ?_
    refine ww_iload X dX0_draw_243 2 rfl ?_
    refine ww_callV_v X (As := [.int x4]) (rest := []) (kX0_placeOnList l D ad cB cI cZ x4 z _ hp) (cwV 1 X.hts gX0_draw_X0_placeOnList rfl rfl rfl hd_X0_placeOnList ⟨Nat.le_of_ble_eq_true rfl, Nat.le_of_ble_eq_true rfl⟩) 12 0 cg_12 rfl rfl rfl rfl (Nat.le_of_ble_eq_true rfl) dX0_draw_245 (fun u2 hp => ?_)
    refine ww_iinc X (v := (x4 + 1)) (lv' := [(4, .int (x4 + 1)), (0, .ref (ad 12)), (1, .ref (ad 2))]) dX0_draw_248 2 rfl rfl (by decide) rfl ?_
    refine ww_goto X (tgt := 235) dX0_draw_251 (by decide) ?_
    exact ww_sub (lv' := [(0, .ref (ad 12)), (1, .ref (ad 2)), (4, .int (x4 + 1))]) [1, 2, 0] rfl (hK235 (x4 + 1) u2 hp)
set_option maxHeartbeats 4000000 in
set_option maxRecDepth 100000 in
theorem wX0_draw_l235 {p : Program} {l : Launch} {e : Env} {s : State} {m : MethodId} {args : Array Value} {below : List Frame} {meth : Method} {c : Code} {D : va_G} {A : Nat → Prop} {ad : Nat → Nat} {cB cI cZ : ClassId} {post : Sg → Prop}  (X : Cx p s m args meth c cX0_draw 6 none RX0 wsX0_draw D (tyL cB cI cZ) A)  (x4 : Int32) (z : Sg) (hp : pX0_draw_l235  post x4 z) : WW p l e rmX0_draw s m args below meth c 6 D A (cW ad cB cI cZ) (QV below args s D (tyL cB cI cZ) (cW ad cB cI cZ) A post) z 235 [(0, .ref (ad 12)), (1, .ref (ad 2)), (4, .int x4)] [] := by
  have key := lp_walk (F := (fun (K : Int32 → Sg → Prop) (a : Int32) (z : Sg) => pX0_draw_b235 (fun (x4 : Int32) z => K x4 z) post a z)) (P := fun a z => WW p l e rmX0_draw s m args below meth c 6 D A (cW ad cB cI cZ) (QV below args s D (tyL cB cI cZ) (cW ad cB cI cZ) A post) z 235 [(0, .ref (ad 12)), (1, .ref (ad 2)), (4, .int a)] []) (fun K hK a z hp => wX0_draw_b235 X (fun x4 z h => hK x4 z h) a z hp)
  exact key x4 z hp
set_option maxHeartbeats 4000000 in
set_option maxRecDepth 100000 in
theorem wX0_draw_b224 {p : Program} {l : Launch} {e : Env} {s : State} {m : MethodId} {args : Array Value} {below : List Frame} {meth : Method} {c : Code} {D : va_G} {A : Nat → Prop} {ad : Nat → Nat} {cB cI cZ : ClassId} {post : Sg → Prop} {K95 : Int32 → Sg → Prop} (X : Cx p s m args meth c cX0_draw 6 none RX0 wsX0_draw D (tyL cB cI cZ) A) (hK95 : ∀ (x4 : Int32) (z : Sg), K95 x4 z → WW p l e rmX0_draw s m args below meth c 6 D A (cW ad cB cI cZ) (QV below args s D (tyL cB cI cZ) (cW ad cB cI cZ) A post) z 95 [(0, .ref (ad 12)), (1, .ref (ad 2)), (4, .int x4)] []) (x4 y0 y1 y2 : Int32) (z : Sg) (hp : pX0_draw_b224 K95 post x4 y0 y1 y2 z) : WW p l e rmX0_draw s m args below meth c 6 D A (cW ad cB cI cZ) (QV below args s D (tyL cB cI cZ) (cW ad cB cI cZ) A post) z 224 [(0, .ref (ad 12)), (1, .ref (ad 2)), (4, .int x4)] [.int y0, .int y1, .int y2, .ref (ad 15)] := by
  unfold pX0_draw_b224 at hp
  refine ww_iadd X dX0_draw_224 ?_
  obtain ⟨h1, hp⟩ := hp
  refine ww_iast X 15 1 cg_15 rfl (sg' := (sA z 10 y2 (y1 + y0))) h1 ca_15 dX0_draw_225 ?_
  refine ww_iinc X (v := (x4 + 1)) (lv' := [(4, .int (x4 + 1)), (0, .ref (ad 12)), (1, .ref (ad 2))]) dX0_draw_226 2 rfl rfl (by decide) rfl ?_
  refine ww_goto X (tgt := 95) dX0_draw_229 (by decide) ?_
  exact ww_sub (lv' := [(0, .ref (ad 12)), (1, .ref (ad 2)), (4, .int (x4 + 1))]) [1, 2, 0] rfl (hK95 (x4 + 1) (sA z 10 y2 (y1 + y0)) hp)
set_option maxHeartbeats 4000000 in
set_option maxRecDepth 100000 in
theorem wX0_draw_b196 {p : Program} {l : Launch} {e : Env} {s : State} {m : MethodId} {args : Array Value} {below : List Frame} {meth : Method} {c : Code} {D : va_G} {A : Nat → Prop} {ad : Nat → Nat} {cB cI cZ : ClassId} {post : Sg → Prop} {K95 : Int32 → Sg → Prop} (X : Cx p s m args meth c cX0_draw 6 none RX0 wsX0_draw D (tyL cB cI cZ) A) (hK95 : ∀ (x4 : Int32) (z : Sg), K95 x4 z → WW p l e rmX0_draw s m args below meth c 6 D A (cW ad cB cI cZ) (QV below args s D (tyL cB cI cZ) (cW ad cB cI cZ) A post) z 95 [(0, .ref (ad 12)), (1, .ref (ad 2)), (4, .int x4)] []) (x4 y0 : Int32) (z : Sg) (hp : pX0_draw_b196 K95 post x4 y0 z) : WW p l e rmX0_draw s m args below meth c 6 D A (cW ad cB cI cZ) (QV below args s D (tyL cB cI cZ) (cW ad cB cI cZ) A post) z 196 [(0, .ref (ad 12)), (1, .ref (ad 2)), (4, .int x4)] [.int y0] := by
  unfold pX0_draw_b196 at hp
  refine ww_istore X (lv' := [(5, .int y0), (0, .ref (ad 12)), (1, .ref (ad 2)), (4, .int x4)]) dX0_draw_196 (by decide) rfl ?_
  refine ww_aload_n X dX0_draw_198 1 rfl ?_
  refine ww_get X in_X0_draw_X0 12 cg_12 rfl 2 (by decide) (X.wd 5 rfl) (v := .ref (ad 15)) rfl dX0_draw_199 ?_
  refine ww_iload X dX0_draw_202 3 rfl ?_
  refine ww_aload_n X dX0_draw_204 1 rfl ?_
  refine ww_get X in_X0_draw_X0 12 cg_12 rfl 0 (by decide) (X.wd 3 rfl) (v := .ref (ad 13)) rfl dX0_draw_205 ?_
  refine ww_iload X dX0_draw_208 3 rfl ?_
  obtain ⟨h1, hp⟩ := hp
  refine ww_iald X 13 1 cg_13 rfl (v := (gA z 8 x4)) h1 rfl dX0_draw_210 ?_
  refine ww_iload X dX0_draw_211 0 rfl ?_
  refine ww_if_eq X (tgt := 223) dX0_draw_213 (by decide) (fun h2 => ?_) (fun h2 => ?_)
  · have hp := hp.1 h2
    refine ww_iconst X (v := 0) dX0_draw_223 (by decide) ?_
    exact ww_sub (lv' := [(0, .ref (ad 12)), (1, .ref (ad 2)), (4, .int x4)]) [1, 2, 3] rfl (wX0_draw_b224 X hK95 x4 0 (gA z 8 x4) x4 z hp)
  · have hp := hp.2 h2
    refine ww_aload_n X dX0_draw_216 2 rfl ?_
    refine ww_callN_i X (As := []) (rest := [.int (gA z 8 x4), .int x4, .ref (ad 15)]) (kX3_sum l D ad cB cI cZ  z _ hp) (⟨va_cnB 0 X.hts gX0_draw_X3_sum_n45 rfl rfl rfl (X.hE.2 _ (List.mem_of_getElem? (i := 39) rfl)) (X.wd 7 rfl) hn_X3_sum ⟨Nat.le_of_ble_eq_true rfl, Nat.le_of_ble_eq_true rfl⟩, (X.wd 77 rfl), (X.wd 78 rfl)⟩) 2 3 cg_2 rfl rfl rfl rfl (Nat.le_of_ble_eq_true rfl) dX0_draw_217 (fun r4 u3 hp => ?_)
    refine ww_goto X (tgt := 224) dX0_draw_220 (by decide) ?_
    exact ww_sub (lv' := [(0, .ref (ad 12)), (1, .ref (ad 2)), (4, .int x4)]) [1, 2, 3] rfl (wX0_draw_b224 X hK95 x4 r4 (gA z 8 x4) x4 u3 hp)
set_option maxHeartbeats 4000000 in
set_option maxRecDepth 100000 in
theorem wX0_draw_b195 {p : Program} {l : Launch} {e : Env} {s : State} {m : MethodId} {args : Array Value} {below : List Frame} {meth : Method} {c : Code} {D : va_G} {A : Nat → Prop} {ad : Nat → Nat} {cB cI cZ : ClassId} {post : Sg → Prop} {K95 : Int32 → Sg → Prop} (X : Cx p s m args meth c cX0_draw 6 none RX0 wsX0_draw D (tyL cB cI cZ) A) (hK95 : ∀ (x4 : Int32) (z : Sg), K95 x4 z → WW p l e rmX0_draw s m args below meth c 6 D A (cW ad cB cI cZ) (QV below args s D (tyL cB cI cZ) (cW ad cB cI cZ) A post) z 95 [(0, .ref (ad 12)), (1, .ref (ad 2)), (4, .int x4)] []) (x4 : Int32) (z : Sg) (hp : pX0_draw_b195 K95 post x4 z) : WW p l e rmX0_draw s m args below meth c 6 D A (cW ad cB cI cZ) (QV below args s D (tyL cB cI cZ) (cW ad cB cI cZ) A post) z 195 [(0, .ref (ad 12)), (1, .ref (ad 2)), (4, .int x4)] [] := by
  unfold pX0_draw_b195 at hp
  refine ww_iconst X (v := 0) dX0_draw_195 (by decide) ?_
  exact wX0_draw_b196 X hK95 x4 0 z hp
set_option maxHeartbeats 4000000 in
set_option maxRecDepth 100000 in
theorem wX0_draw_b165 {p : Program} {l : Launch} {e : Env} {s : State} {m : MethodId} {args : Array Value} {below : List Frame} {meth : Method} {c : Code} {D : va_G} {A : Nat → Prop} {ad : Nat → Nat} {cB cI cZ : ClassId} {post : Sg → Prop} {K95 : Int32 → Sg → Prop} (X : Cx p s m args meth c cX0_draw 6 none RX0 wsX0_draw D (tyL cB cI cZ) A) (hK95 : ∀ (x4 : Int32) (z : Sg), K95 x4 z → WW p l e rmX0_draw s m args below meth c 6 D A (cW ad cB cI cZ) (QV below args s D (tyL cB cI cZ) (cW ad cB cI cZ) A post) z 95 [(0, .ref (ad 12)), (1, .ref (ad 2)), (4, .int x4)] []) (x4 y0 y1 : Int32) (z : Sg) (hp : pX0_draw_b165 K95 post x4 y0 y1 z) : WW p l e rmX0_draw s m args below meth c 6 D A (cW ad cB cI cZ) (QV below args s D (tyL cB cI cZ) (cW ad cB cI cZ) A post) z 165 [(0, .ref (ad 12)), (1, .ref (ad 2)), (4, .int x4)] [.int y0, .int y1, .ref (ad 12)] := by
  unfold pX0_draw_b165 at hp
  refine ww_iadd X dX0_draw_165 ?_
  refine ww_put X in_X0_draw_X0 tyX0 tyX0_ok nmX0 12 cg_12 rfl 6 (by decide) (X.wd 2 rfl) rfl pd_X0_6 (Nat.le_of_ble_eq_true rfl) (sg' := (sS z 13 (y1 + y0))) cs_13 dX0_draw_166 ?_
  refine ww_aload_n X dX0_draw_169 0 rfl ?_
  refine ww_get X in_X0_draw_X0 12 cg_12 rfl 1 (by decide) (X.wd 4 rfl) (v := .ref (ad 14)) rfl dX0_draw_170 ?_
  refine ww_iload X dX0_draw_173 2 rfl ?_
  obtain ⟨h1, hp⟩ := hp
  refine ww_zald X 14 2 cg_14 rfl (v := (gA z 9 x4)) h1 rfl dX0_draw_175 ?_
  refine ww_if_eq X (tgt := 195) dX0_draw_176 (by decide) (fun h2 => ?_) (fun h2 => ?_)
  · have hp := hp.1 h2
    exact wX0_draw_b195 X hK95 x4 (sS z 13 (y1 + y0)) hp
  · have hp := hp.2 h2
    refine ww_aload_n X dX0_draw_179 1 rfl ?_
    refine ww_bipush X (v := 24) dX0_draw_180 (by decide) ?_
    refine ww_iload X dX0_draw_182 2 rfl ?_
    refine ww_iadd X dX0_draw_184 ?_
    refine ww_callN_i X (As := [.int (24 + x4)]) (rest := []) (kX3_measure l D ad cB cI cZ (24 + x4) (sS z 13 (y1 + y0)) _ hp) (⟨va_cnB 1 X.hts gX0_draw_X3_measure_n41 rfl rfl rfl (X.hE.2 _ (List.mem_of_getElem? (i := 38) rfl)) (X.wd 7 rfl) hn_X3_measure ⟨Nat.le_of_ble_eq_true rfl, Nat.le_of_ble_eq_true rfl⟩, (X.wd 16 rfl), (X.wd 17 rfl)⟩) 2 3 cg_2 rfl rfl rfl rfl (Nat.le_of_ble_eq_true rfl) dX0_draw_185 (fun r4 u3 hp => ?_)
    refine ww_if_eq X (tgt := 195) dX0_draw_188 (by decide) (fun h5 => ?_) (fun h5 => ?_)
    · have hp := hp.1 h5
      exact wX0_draw_b195 X hK95 x4 u3 hp
    · have hp := hp.2 h5
      refine ww_iconst X (v := 1) dX0_draw_191 (by decide) ?_
      refine ww_goto X (tgt := 196) dX0_draw_192 (by decide) ?_
      exact wX0_draw_b196 X hK95 x4 1 u3 hp
set_option maxHeartbeats 4000000 in
set_option maxRecDepth 100000 in
theorem wX0_draw_b144 {p : Program} {l : Launch} {e : Env} {s : State} {m : MethodId} {args : Array Value} {below : List Frame} {meth : Method} {c : Code} {D : va_G} {A : Nat → Prop} {ad : Nat → Nat} {cB cI cZ : ClassId} {post : Sg → Prop} {K95 : Int32 → Sg → Prop} (X : Cx p s m args meth c cX0_draw 6 none RX0 wsX0_draw D (tyL cB cI cZ) A) (hK95 : ∀ (x4 : Int32) (z : Sg), K95 x4 z → WW p l e rmX0_draw s m args below meth c 6 D A (cW ad cB cI cZ) (QV below args s D (tyL cB cI cZ) (cW ad cB cI cZ) A post) z 95 [(0, .ref (ad 12)), (1, .ref (ad 2)), (4, .int x4)] []) (x4 y0 y1 : Int32) (z : Sg) (hp : pX0_draw_b144 K95 post x4 y0 y1 z) : WW p l e rmX0_draw s m args below meth c 6 D A (cW ad cB cI cZ) (QV below args s D (tyL cB cI cZ) (cW ad cB cI cZ) A post) z 144 [(0, .ref (ad 12)), (1, .ref (ad 2)), (4, .int x4)] [.int y0, .int y1, .ref (ad 14)] := by
  unfold pX0_draw_b144 at hp
  obtain ⟨h1, hp⟩ := hp
  refine ww_zast X 14 2 cg_14 rfl (sg' := (sA z 9 y1 (vp_nar .boolean y0))) h1 ca_14 dX0_draw_144 ?_
  refine ww_aload_n X dX0_draw_145 0 rfl ?_
  refine ww_dup X dX0_draw_146 rfl ?_
  refine ww_get X in_X0_draw_X0 12 cg_12 rfl 6 (by decide) (X.wd 2 rfl) (v := .int (z.1 13)) rfl dX0_draw_147 ?_
  refine ww_aload_n X dX0_draw_150 0 rfl ?_
  refine ww_get X in_X0_draw_X0 12 cg_12 rfl 1 (by decide) (X.wd 4 rfl) (v := .ref (ad 14)) rfl dX0_draw_151 ?_
  refine ww_iload X dX0_draw_154 2 rfl ?_
  obtain ⟨h2, hp⟩ := hp
  refine ww_zald X 14 2 cg_14 rfl (v := (gA (sA z 9 y1 (vp_nar .boolean y0)) 9 x4)) h2 rfl dX0_draw_156 ?_
  refine ww_if_eq X (tgt := 164) dX0_draw_157 (by decide) (fun h3 => ?_) (fun h3 => ?_)
  · have hp := hp.1 h3
    refine ww_iconst X (v := 0) dX0_draw_164 (by decide) ?_
    exact wX0_draw_b165 X hK95 x4 0 (z.1 13) (sA z 9 y1 (vp_nar .boolean y0)) hp
  · have hp := hp.2 h3
    refine ww_iconst X (v := 1) dX0_draw_160 (by decide) ?_
    refine ww_goto X (tgt := 165) dX0_draw_161 (by decide) ?_
    exact wX0_draw_b165 X hK95 x4 1 (z.1 13) (sA z 9 y1 (vp_nar .boolean y0)) hp
set_option maxHeartbeats 4000000 in
set_option maxRecDepth 100000 in
theorem wX0_draw_b143 {p : Program} {l : Launch} {e : Env} {s : State} {m : MethodId} {args : Array Value} {below : List Frame} {meth : Method} {c : Code} {D : va_G} {A : Nat → Prop} {ad : Nat → Nat} {cB cI cZ : ClassId} {post : Sg → Prop} {K95 : Int32 → Sg → Prop} (X : Cx p s m args meth c cX0_draw 6 none RX0 wsX0_draw D (tyL cB cI cZ) A) (hK95 : ∀ (x4 : Int32) (z : Sg), K95 x4 z → WW p l e rmX0_draw s m args below meth c 6 D A (cW ad cB cI cZ) (QV below args s D (tyL cB cI cZ) (cW ad cB cI cZ) A post) z 95 [(0, .ref (ad 12)), (1, .ref (ad 2)), (4, .int x4)] []) (x4 y0 : Int32) (z : Sg) (hp : pX0_draw_b143 K95 post x4 y0 z) : WW p l e rmX0_draw s m args below meth c 6 D A (cW ad cB cI cZ) (QV below args s D (tyL cB cI cZ) (cW ad cB cI cZ) A post) z 143 [(0, .ref (ad 12)), (1, .ref (ad 2)), (4, .int x4)] [.int y0, .ref (ad 14)] := by
  unfold pX0_draw_b143 at hp
  refine ww_iconst X (v := 0) dX0_draw_143 (by decide) ?_
  exact wX0_draw_b144 X hK95 x4 0 y0 z hp
set_option maxHeartbeats 4000000 in
set_option maxRecDepth 100000 in
theorem wX0_draw_b95 {p : Program} {l : Launch} {e : Env} {s : State} {m : MethodId} {args : Array Value} {below : List Frame} {meth : Method} {c : Code} {D : va_G} {A : Nat → Prop} {ad : Nat → Nat} {cB cI cZ : ClassId} {post : Sg → Prop} {K95 : Int32 → Sg → Prop} (X : Cx p s m args meth c cX0_draw 6 none RX0 wsX0_draw D (tyL cB cI cZ) A) (hK95 : ∀ (x4 : Int32) (z : Sg), K95 x4 z → WW p l e rmX0_draw s m args below meth c 6 D A (cW ad cB cI cZ) (QV below args s D (tyL cB cI cZ) (cW ad cB cI cZ) A post) z 95 [(0, .ref (ad 12)), (1, .ref (ad 2)), (4, .int x4)] []) (x4 : Int32) (z : Sg) (hp : pX0_draw_b95 K95 post x4 z) : WW p l e rmX0_draw s m args below meth c 6 D A (cW ad cB cI cZ) (QV below args s D (tyL cB cI cZ) (cW ad cB cI cZ) A post) z 95 [(0, .ref (ad 12)), (1, .ref (ad 2)), (4, .int x4)] [] := by
  unfold pX0_draw_b95 at hp
  refine ww_iload X dX0_draw_95 2 rfl ?_
  refine ww_bipush X (v := 24) dX0_draw_97 (by decide) ?_
  refine ww_icmp_ge X (tgt := 232) dX0_draw_99 (by decide) (fun h1 => ?_) (fun h1 => ?_)
  · have hp := hp.1 h1
    refine ww_iconst X (v := 0) dX0_draw_232 (by decide) ?_
    refine ww_istore X (lv' := [(4, .int 0), (0, .ref (ad 12)), (1, .ref (ad 2))]) dX0_draw_233 (by decide) rfl ?_
    exact ww_sub (lv' := [(0, .ref (ad 12)), (1, .ref (ad 2)), (4, .int 0)]) [1, 2, 0] rfl (wX0_draw_l235 X  0 z hp)
  · have hp := hp.2 h1
    refine ww_aload_n X dX0_draw_102 0 rfl ?_
    refine ww_get X in_X0_draw_X0 12 cg_12 rfl 1 (by decide) (X.wd 4 rfl) (v := .ref (ad 14)) rfl dX0_draw_103 ?_
    refine ww_iload X dX0_draw_106 2 rfl ?_
    refine ww_aload_n X dX0_draw_108 0 rfl ?_
    refine ww_get X in_X0_draw_X0 12 cg_12 rfl 0 (by decide) (X.wd 3 rfl) (v := .ref (ad 13)) rfl dX0_draw_109 ?_
    refine ww_iload X dX0_draw_112 2 rfl ?_
    obtain ⟨h2, hp⟩ := hp
    refine ww_iald X 13 1 cg_13 rfl (v := (gA z 8 x4)) h2 rfl dX0_draw_114 ?_
    refine ww_if_lt X (tgt := 143) dX0_draw_115 (by decide) (fun h3 => ?_) (fun h3 => ?_)
    · have hp := hp.1 h3
      exact wX0_draw_b143 X hK95 x4 x4 z hp
    · have hp := hp.2 h3
      refine ww_aload_n X dX0_draw_118 0 rfl ?_
      refine ww_iload X dX0_draw_119 2 rfl ?_
      refine ww_aload_n X dX0_draw_121 1 rfl ?_
      refine ww_getN X in_X0_draw_X3 2 cg_2 rfl 0 (by decide) (X.nest 12 rfl) (v := .ref (ad 3)) rfl dX0_draw_122 ?_
      refine ww_callV_i X (As := [.int x4, .ref (ad 3)]) (rest := [.int x4, .ref (ad 14)]) (kX0_aheadInRoundZero l D ad cB cI cZ x4 z _ hp) (cwV 2 X.hts gX0_draw_X0_aheadInRoundZero rfl rfl rfl hd_X0_aheadInRoundZero ⟨Nat.le_of_ble_eq_true rfl, Nat.le_of_ble_eq_true rfl⟩) 12 0 cg_12 rfl rfl rfl rfl (Nat.le_of_ble_eq_true rfl) dX0_draw_125 (fun r5 u4 hp => ?_)
      refine ww_aload_n X dX0_draw_128 1 rfl ?_
      refine ww_getN X in_X0_draw_X3 2 cg_2 rfl 0 (by decide) (X.nest 12 rfl) (v := .ref (ad 3)) rfl dX0_draw_129 ?_
      refine ww_iconst X (v := 5) dX0_draw_132 (by decide) ?_
      refine ww_callN_i X (As := [.int 5]) (rest := [.int r5, .int x4, .ref (ad 14)]) (kX2_number l D ad cB cI cZ 5 u4 _ hp) (⟨va_cnB 1 X.hts gX0_draw_X2_number_n59 rfl rfl rfl (X.hE.2 _ (List.mem_of_getElem? (i := 40) rfl)) (X.wd 55 rfl) hn_X2_number ⟨Nat.le_of_ble_eq_true rfl, Nat.le_of_ble_eq_true rfl⟩, (X.wd 54 rfl), (X.wd 56 rfl)⟩) 3 2 cg_3 rfl rfl rfl rfl (Nat.le_of_ble_eq_true rfl) dX0_draw_133 (fun r7 u6 hp => ?_)
      refine ww_icmp_ge X (tgt := 143) dX0_draw_136 (by decide) (fun h8 => ?_) (fun h8 => ?_)
      · have hp := hp.1 h8
        exact wX0_draw_b143 X hK95 x4 x4 u6 hp
      · have hp := hp.2 h8
        refine ww_iconst X (v := 1) dX0_draw_139 (by decide) ?_
        refine ww_goto X (tgt := 144) dX0_draw_140 (by decide) ?_
        exact wX0_draw_b144 X hK95 x4 1 x4 u6 hp
set_option maxHeartbeats 4000000 in
set_option maxRecDepth 100000 in
theorem wX0_draw_l95 {p : Program} {l : Launch} {e : Env} {s : State} {m : MethodId} {args : Array Value} {below : List Frame} {meth : Method} {c : Code} {D : va_G} {A : Nat → Prop} {ad : Nat → Nat} {cB cI cZ : ClassId} {post : Sg → Prop}  (X : Cx p s m args meth c cX0_draw 6 none RX0 wsX0_draw D (tyL cB cI cZ) A)  (x4 : Int32) (z : Sg) (hp : pX0_draw_l95  post x4 z) : WW p l e rmX0_draw s m args below meth c 6 D A (cW ad cB cI cZ) (QV below args s D (tyL cB cI cZ) (cW ad cB cI cZ) A post) z 95 [(0, .ref (ad 12)), (1, .ref (ad 2)), (4, .int x4)] [] := by
  have key := lp_walk (F := (fun (K : Int32 → Sg → Prop) (a : Int32) (z : Sg) => pX0_draw_b95 (fun (x4 : Int32) z => K x4 z) post a z)) (P := fun a z => WW p l e rmX0_draw s m args below meth c 6 D A (cW ad cB cI cZ) (QV below args s D (tyL cB cI cZ) (cW ad cB cI cZ) A post) z 95 [(0, .ref (ad 12)), (1, .ref (ad 2)), (4, .int a)] []) (fun K hK a z hp => wX0_draw_b95 X (fun x4 z h => hK x4 z h) a z hp)
  exact key x4 z hp
set_option maxHeartbeats 4000000 in
set_option maxRecDepth 100000 in
theorem wX0_draw_b82 {p : Program} {l : Launch} {e : Env} {s : State} {m : MethodId} {args : Array Value} {below : List Frame} {meth : Method} {c : Code} {D : va_G} {A : Nat → Prop} {ad : Nat → Nat} {cB cI cZ : ClassId} {post : Sg → Prop} {K18 : Int32 → Int32 → Sg → Prop} (X : Cx p s m args meth c cX0_draw 6 none RX0 wsX0_draw D (tyL cB cI cZ) A) (hK18 : ∀ (x3 x4 : Int32) (z : Sg), K18 x3 x4 z → WW p l e rmX0_draw s m args below meth c 6 D A (cW ad cB cI cZ) (QV below args s D (tyL cB cI cZ) (cW ad cB cI cZ) A post) z 18 [(0, .ref (ad 12)), (1, .ref (ad 2)), (3, .int x3), (4, .int x4)] []) (x3 x4 y0 y1 : Int32) (z : Sg) (hp : pX0_draw_b82 K18 post x3 x4 y0 y1 z) : WW p l e rmX0_draw s m args below meth c 6 D A (cW ad cB cI cZ) (QV below args s D (tyL cB cI cZ) (cW ad cB cI cZ) A post) z 82 [(0, .ref (ad 12)), (1, .ref (ad 2)), (3, .int x3), (4, .int x4)] [.int y0, .int y1, .ref (ad 12)] := by
  unfold pX0_draw_b82 at hp
  refine ww_iadd X dX0_draw_82 ?_
  refine ww_put X in_X0_draw_X0 tyX0 tyX0_ok nmX0 12 cg_12 rfl 5 (by decide) (X.wd 1 rfl) rfl pd_X0_5 (Nat.le_of_ble_eq_true rfl) (sg' := (sS z 12 (y1 + y0))) cs_12 dX0_draw_83 ?_
  refine ww_iinc X (v := (x4 + 1)) (lv' := [(4, .int (x4 + 1)), (0, .ref (ad 12)), (1, .ref (ad 2)), (3, .int x3)]) dX0_draw_86 3 rfl rfl (by decide) rfl ?_
  refine ww_goto X (tgt := 18) dX0_draw_89 (by decide) ?_
  exact ww_sub (lv' := [(0, .ref (ad 12)), (1, .ref (ad 2)), (3, .int x3), (4, .int (x4 + 1))]) [1, 2, 3, 0] rfl (hK18 x3 (x4 + 1) (sS z 12 (y1 + y0)) hp)
set_option maxHeartbeats 4000000 in
set_option maxRecDepth 100000 in
theorem wX0_draw_b66 {p : Program} {l : Launch} {e : Env} {s : State} {m : MethodId} {args : Array Value} {below : List Frame} {meth : Method} {c : Code} {D : va_G} {A : Nat → Prop} {ad : Nat → Nat} {cB cI cZ : ClassId} {post : Sg → Prop} {K18 : Int32 → Int32 → Sg → Prop} (X : Cx p s m args meth c cX0_draw 6 none RX0 wsX0_draw D (tyL cB cI cZ) A) (hK18 : ∀ (x3 x4 : Int32) (z : Sg), K18 x3 x4 z → WW p l e rmX0_draw s m args below meth c 6 D A (cW ad cB cI cZ) (QV below args s D (tyL cB cI cZ) (cW ad cB cI cZ) A post) z 18 [(0, .ref (ad 12)), (1, .ref (ad 2)), (3, .int x3), (4, .int x4)] []) (x3 x4 x5 y0 y1 : Int32) (z : Sg) (hp : pX0_draw_b66 K18 post x3 x4 x5 y0 y1 z) : WW p l e rmX0_draw s m args below meth c 6 D A (cW ad cB cI cZ) (QV below args s D (tyL cB cI cZ) (cW ad cB cI cZ) A post) z 66 [(0, .ref (ad 12)), (1, .ref (ad 2)), (3, .int x3), (4, .int x4), (5, .int x5)] [.int y0, .int y1, .ref (ad 13)] := by
  unfold pX0_draw_b66 at hp
  obtain ⟨h1, hp⟩ := hp
  refine ww_iast X 13 1 cg_13 rfl (sg' := (sA z 8 y1 y0)) h1 ca_13 dX0_draw_66 ?_
  refine ww_aload_n X dX0_draw_67 0 rfl ?_
  refine ww_dup X dX0_draw_68 rfl ?_
  refine ww_get X in_X0_draw_X0 12 cg_12 rfl 5 (by decide) (X.wd 1 rfl) (v := .int (z.1 12)) rfl dX0_draw_69 ?_
  refine ww_iload X dX0_draw_72 4 rfl ?_
  refine ww_if_eq X (tgt := 81) dX0_draw_74 (by decide) (fun h2 => ?_) (fun h2 => ?_)
  · have hp := hp.1 h2
    refine ww_iconst X (v := 0) dX0_draw_81 (by decide) ?_
    exact ww_sub (lv' := [(0, .ref (ad 12)), (1, .ref (ad 2)), (3, .int x3), (4, .int x4)]) [0, 1, 2, 3] rfl (wX0_draw_b82 X hK18 x3 x4 0 (z.1 12) (sA z 8 y1 y0) hp)
  · have hp := hp.2 h2
    refine ww_iconst X (v := 1) dX0_draw_77 (by decide) ?_
    refine ww_goto X (tgt := 82) dX0_draw_78 (by decide) ?_
    exact ww_sub (lv' := [(0, .ref (ad 12)), (1, .ref (ad 2)), (3, .int x3), (4, .int x4)]) [0, 1, 2, 3] rfl (wX0_draw_b82 X hK18 x3 x4 1 (z.1 12) (sA z 8 y1 y0) hp)
set_option maxHeartbeats 4000000 in
set_option maxRecDepth 100000 in
theorem wX0_draw_b45 {p : Program} {l : Launch} {e : Env} {s : State} {m : MethodId} {args : Array Value} {below : List Frame} {meth : Method} {c : Code} {D : va_G} {A : Nat → Prop} {ad : Nat → Nat} {cB cI cZ : ClassId} {post : Sg → Prop} {K18 : Int32 → Int32 → Sg → Prop} (X : Cx p s m args meth c cX0_draw 6 none RX0 wsX0_draw D (tyL cB cI cZ) A) (hK18 : ∀ (x3 x4 : Int32) (z : Sg), K18 x3 x4 z → WW p l e rmX0_draw s m args below meth c 6 D A (cW ad cB cI cZ) (QV below args s D (tyL cB cI cZ) (cW ad cB cI cZ) A post) z 18 [(0, .ref (ad 12)), (1, .ref (ad 2)), (3, .int x3), (4, .int x4)] []) (x3 x4 y0 : Int32) (z : Sg) (hp : pX0_draw_b45 K18 post x3 x4 y0 z) : WW p l e rmX0_draw s m args below meth c 6 D A (cW ad cB cI cZ) (QV below args s D (tyL cB cI cZ) (cW ad cB cI cZ) A post) z 45 [(0, .ref (ad 12)), (1, .ref (ad 2)), (3, .int x3), (4, .int x4)] [.int y0] := by
  unfold pX0_draw_b45 at hp
  refine ww_istore X (lv' := [(5, .int y0), (0, .ref (ad 12)), (1, .ref (ad 2)), (3, .int x3), (4, .int x4)]) dX0_draw_45 (by decide) rfl ?_
  refine ww_aload_n X dX0_draw_47 1 rfl ?_
  refine ww_get X in_X0_draw_X0 12 cg_12 rfl 0 (by decide) (X.wd 3 rfl) (v := .ref (ad 13)) rfl dX0_draw_48 ?_
  refine ww_iload X dX0_draw_51 4 rfl ?_
  refine ww_iload X dX0_draw_53 0 rfl ?_
  refine ww_if_eq X (tgt := 65) dX0_draw_55 (by decide) (fun h1 => ?_) (fun h1 => ?_)
  · have hp := hp.1 h1
    refine ww_iconst X (v := (-1)) dX0_draw_65 (by decide) ?_
    exact ww_sub (lv' := [(0, .ref (ad 12)), (1, .ref (ad 2)), (3, .int x3), (4, .int x4), (5, .int y0)]) [1, 2, 3, 4, 0] rfl (wX0_draw_b66 X hK18 x3 x4 y0 (-1) x4 z hp)
  · have hp := hp.2 h1
    refine ww_aload_n X dX0_draw_58 2 rfl ?_
    refine ww_callN_i X (As := []) (rest := [.int x4, .ref (ad 13)]) (kX3_sum l D ad cB cI cZ  z _ hp) (⟨va_cnB 0 X.hts gX0_draw_X3_sum_n45 rfl rfl rfl (X.hE.2 _ (List.mem_of_getElem? (i := 39) rfl)) (X.wd 7 rfl) hn_X3_sum ⟨Nat.le_of_ble_eq_true rfl, Nat.le_of_ble_eq_true rfl⟩, (X.wd 77 rfl), (X.wd 78 rfl)⟩) 2 3 cg_2 rfl rfl rfl rfl (Nat.le_of_ble_eq_true rfl) dX0_draw_59 (fun r3 u2 hp => ?_)
    refine ww_goto X (tgt := 66) dX0_draw_62 (by decide) ?_
    exact ww_sub (lv' := [(0, .ref (ad 12)), (1, .ref (ad 2)), (3, .int x3), (4, .int x4), (5, .int y0)]) [1, 2, 3, 4, 0] rfl (wX0_draw_b66 X hK18 x3 x4 y0 r3 x4 u2 hp)
set_option maxHeartbeats 4000000 in
set_option maxRecDepth 100000 in
theorem wX0_draw_b44 {p : Program} {l : Launch} {e : Env} {s : State} {m : MethodId} {args : Array Value} {below : List Frame} {meth : Method} {c : Code} {D : va_G} {A : Nat → Prop} {ad : Nat → Nat} {cB cI cZ : ClassId} {post : Sg → Prop} {K18 : Int32 → Int32 → Sg → Prop} (X : Cx p s m args meth c cX0_draw 6 none RX0 wsX0_draw D (tyL cB cI cZ) A) (hK18 : ∀ (x3 x4 : Int32) (z : Sg), K18 x3 x4 z → WW p l e rmX0_draw s m args below meth c 6 D A (cW ad cB cI cZ) (QV below args s D (tyL cB cI cZ) (cW ad cB cI cZ) A post) z 18 [(0, .ref (ad 12)), (1, .ref (ad 2)), (3, .int x3), (4, .int x4)] []) (x3 x4 : Int32) (z : Sg) (hp : pX0_draw_b44 K18 post x3 x4 z) : WW p l e rmX0_draw s m args below meth c 6 D A (cW ad cB cI cZ) (QV below args s D (tyL cB cI cZ) (cW ad cB cI cZ) A post) z 44 [(0, .ref (ad 12)), (1, .ref (ad 2)), (3, .int x3), (4, .int x4)] [] := by
  unfold pX0_draw_b44 at hp
  refine ww_iconst X (v := 0) dX0_draw_44 (by decide) ?_
  exact wX0_draw_b45 X hK18 x3 x4 0 z hp
set_option maxHeartbeats 4000000 in
set_option maxRecDepth 100000 in
theorem wX0_draw_b18 {p : Program} {l : Launch} {e : Env} {s : State} {m : MethodId} {args : Array Value} {below : List Frame} {meth : Method} {c : Code} {D : va_G} {A : Nat → Prop} {ad : Nat → Nat} {cB cI cZ : ClassId} {post : Sg → Prop} {K18 : Int32 → Int32 → Sg → Prop} (X : Cx p s m args meth c cX0_draw 6 none RX0 wsX0_draw D (tyL cB cI cZ) A) (hK18 : ∀ (x3 x4 : Int32) (z : Sg), K18 x3 x4 z → WW p l e rmX0_draw s m args below meth c 6 D A (cW ad cB cI cZ) (QV below args s D (tyL cB cI cZ) (cW ad cB cI cZ) A post) z 18 [(0, .ref (ad 12)), (1, .ref (ad 2)), (3, .int x3), (4, .int x4)] []) (x3 x4 : Int32) (z : Sg) (hp : pX0_draw_b18 K18 post x3 x4 z) : WW p l e rmX0_draw s m args below meth c 6 D A (cW ad cB cI cZ) (QV below args s D (tyL cB cI cZ) (cW ad cB cI cZ) A post) z 18 [(0, .ref (ad 12)), (1, .ref (ad 2)), (3, .int x3), (4, .int x4)] [] := by
  unfold pX0_draw_b18 at hp
  refine ww_iload X dX0_draw_18 3 rfl ?_
  refine ww_bipush X (v := 24) dX0_draw_20 (by decide) ?_
  refine ww_icmp_ge X (tgt := 92) dX0_draw_22 (by decide) (fun h1 => ?_) (fun h1 => ?_)
  · have hp := hp.1 h1
    refine ww_iconst X (v := 0) dX0_draw_92 (by decide) ?_
    refine ww_istore X (lv' := [(4, .int 0), (0, .ref (ad 12)), (1, .ref (ad 2)), (3, .int x3)]) dX0_draw_93 (by decide) rfl ?_
    exact ww_sub (lv' := [(0, .ref (ad 12)), (1, .ref (ad 2)), (4, .int 0)]) [1, 2, 0] rfl (wX0_draw_l95 X  0 z hp)
  · have hp := hp.2 h1
    refine ww_iload X dX0_draw_25 3 rfl ?_
    refine ww_iload_n X dX0_draw_27 2 rfl ?_
    refine ww_icmp_ge X (tgt := 44) dX0_draw_28 (by decide) (fun h2 => ?_) (fun h2 => ?_)
    · have hp := hp.1 h2
      exact wX0_draw_b44 X hK18 x3 x4 z hp
    · have hp := hp.2 h2
      refine ww_aload_n X dX0_draw_31 1 rfl ?_
      refine ww_iload X dX0_draw_32 3 rfl ?_
      refine ww_callN_i X (As := [.int x4]) (rest := []) (kX3_measure l D ad cB cI cZ x4 z _ hp) (⟨va_cnB 1 X.hts gX0_draw_X3_measure_n41 rfl rfl rfl (X.hE.2 _ (List.mem_of_getElem? (i := 38) rfl)) (X.wd 7 rfl) hn_X3_measure ⟨Nat.le_of_ble_eq_true rfl, Nat.le_of_ble_eq_true rfl⟩, (X.wd 16 rfl), (X.wd 17 rfl)⟩) 2 3 cg_2 rfl rfl rfl rfl (Nat.le_of_ble_eq_true rfl) dX0_draw_34 (fun r4 u3 hp => ?_)
      refine ww_if_eq X (tgt := 44) dX0_draw_37 (by decide) (fun h5 => ?_) (fun h5 => ?_)
      · have hp := hp.1 h5
        exact wX0_draw_b44 X hK18 x3 x4 u3 hp
      · have hp := hp.2 h5
        refine ww_iconst X (v := 1) dX0_draw_40 (by decide) ?_
        refine ww_goto X (tgt := 45) dX0_draw_41 (by decide) ?_
        exact wX0_draw_b45 X hK18 x3 x4 1 u3 hp
set_option maxHeartbeats 4000000 in
set_option maxRecDepth 100000 in
theorem wX0_draw_l18 {p : Program} {l : Launch} {e : Env} {s : State} {m : MethodId} {args : Array Value} {below : List Frame} {meth : Method} {c : Code} {D : va_G} {A : Nat → Prop} {ad : Nat → Nat} {cB cI cZ : ClassId} {post : Sg → Prop}  (X : Cx p s m args meth c cX0_draw 6 none RX0 wsX0_draw D (tyL cB cI cZ) A)  (x3 x4 : Int32) (z : Sg) (hp : pX0_draw_l18  post x3 x4 z) : WW p l e rmX0_draw s m args below meth c 6 D A (cW ad cB cI cZ) (QV below args s D (tyL cB cI cZ) (cW ad cB cI cZ) A post) z 18 [(0, .ref (ad 12)), (1, .ref (ad 2)), (3, .int x3), (4, .int x4)] [] := by
  have key := lp_walk (F := (fun (K : Int32 × Int32 → Sg → Prop) (a : Int32 × Int32) (z : Sg) => pX0_draw_b18 (fun (x3 x4 : Int32) z => K (x3, x4) z) post a.1 a.2 z)) (P := fun a z => WW p l e rmX0_draw s m args below meth c 6 D A (cW ad cB cI cZ) (QV below args s D (tyL cB cI cZ) (cW ad cB cI cZ) A post) z 18 [(0, .ref (ad 12)), (1, .ref (ad 2)), (3, .int a.1), (4, .int a.2)] []) (fun K hK a z hp => wX0_draw_b18 X (fun x3 x4 z h => hK (x3, x4) z h) a.1 a.2 z hp)
  exact key (x3, x4) z hp
set_option maxHeartbeats 4000000 in
set_option maxRecDepth 100000 in
theorem kX0_draw (l : Launch) (D : va_G) (ad : Nat → Nat) (cB cI cZ : ClassId) (a2 a3 : Int32) (z : Sg) (post : Sg → Prop) (hp : pX0_draw a2 a3 z post) : Cv l D (tyL cB cI cZ) (cW ad cB cI cZ) yX0_draw wsX0_draw rmX0_draw [.ref (ad 12), .ref (ad 2), .int a2, .int a3] z post := by
  refine Cv.of (cc := cX0_draw) (maxL := 6) (ret := none) (by decide) rfl (Nat.le_of_ble_eq_true rfl) ?_
  intro p e s m args below meth c A X
  have X : Cx p s m args meth c cX0_draw 6 none RX0 wsX0_draw D (tyL cB cI cZ) A := X
  show WW p l e rmX0_draw s m args below meth c 6 D A (cW ad cB cI cZ) (QV below args s D (tyL cB cI cZ) (cW ad cB cI cZ) A post) z 0 [(0, .ref (ad 12)), (1, .ref (ad 2)), (2, .int a2), (3, .int a3)] []
  unfold pX0_draw at hp
  refine ww_aload_n X dX0_draw_0 1 rfl ?_
  refine ww_iload_n X dX0_draw_1 2 rfl ?_
  refine ww_callN_v X (As := [.int a2]) (rest := []) (kX3_know l D ad cB cI cZ a2 z _ hp) (⟨va_cnB 1 X.hts gX0_draw_X3_know_n28 rfl rfl rfl (X.hE.2 _ (List.mem_of_getElem? (i := 37) rfl)) (X.wd 7 rfl) hn_X3_know ⟨Nat.le_of_ble_eq_true rfl, Nat.le_of_ble_eq_true rfl⟩, (X.wd 6 rfl), (X.wd 8 rfl)⟩) 2 3 cg_2 rfl rfl rfl rfl (Nat.le_of_ble_eq_true rfl) dX0_draw_2 (fun u1 hp => ?_)
  refine ww_aload_n X dX0_draw_5 0 rfl ?_
  refine ww_iconst X (v := 0) dX0_draw_6 (by decide) ?_
  refine ww_put X in_X0_draw_X0 tyX0 tyX0_ok nmX0 12 cg_12 rfl 5 (by decide) (X.wd 1 rfl) rfl pd_X0_5 (Nat.le_of_ble_eq_true rfl) (sg' := (sS u1 12 0)) cs_12 dX0_draw_7 ?_
  refine ww_aload_n X dX0_draw_10 0 rfl ?_
  refine ww_iconst X (v := 0) dX0_draw_11 (by decide) ?_
  refine ww_put X in_X0_draw_X0 tyX0 tyX0_ok nmX0 12 cg_12 rfl 6 (by decide) (X.wd 2 rfl) rfl pd_X0_6 (Nat.le_of_ble_eq_true rfl) (sg' := (sS (sS u1 12 0) 13 0)) cs_13 dX0_draw_12 ?_
  refine ww_iconst X (v := 0) dX0_draw_15 (by decide) ?_
  refine ww_istore X (lv' := [(4, .int 0), (0, .ref (ad 12)), (1, .ref (ad 2)), (2, .int a2), (3, .int a3)]) dX0_draw_16 (by decide) rfl ?_
  exact ww_sub (lv' := [(0, .ref (ad 12)), (1, .ref (ad 2)), (3, .int a3), (4, .int 0)]) [1, 2, 4, 0] rfl (wX0_draw_l18 X  a3 0 (sS (sS u1 12 0) 13 0) hp)
set_option maxHeartbeats 4000000 in
set_option maxRecDepth 100000 in
theorem wX0_placeOf_b20 {p : Program} {l : Launch} {e : Env} {s : State} {m : MethodId} {args : Array Value} {below : List Frame} {meth : Method} {c : Code} {D : va_G} {A : Nat → Prop} {ad : Nat → Nat} {cB cI cZ : ClassId} {post : Int32 → Sg → Prop}  (X : Cx p s m args meth c cX0_placeOf 2 (some .int) RX0 wsX0_placeOf D (tyL cB cI cZ) A)  (y0 : Int32) (z : Sg) (hp : pX0_placeOf_b20  post y0 z) : WW p l e rmX0_placeOf s m args below meth c 2 D A (cW ad cB cI cZ) (QI below args s D (tyL cB cI cZ) (cW ad cB cI cZ) A post) z 20 [(0, .ref (ad 12))] [.int y0] := by
  unfold pX0_placeOf_b20 at hp
  exact ww_iret X hp dX0_placeOf_20
set_option maxHeartbeats 4000000 in
set_option maxRecDepth 100000 in
theorem wX0_placeOf_b19 {p : Program} {l : Launch} {e : Env} {s : State} {m : MethodId} {args : Array Value} {below : List Frame} {meth : Method} {c : Code} {D : va_G} {A : Nat → Prop} {ad : Nat → Nat} {cB cI cZ : ClassId} {post : Int32 → Sg → Prop}  (X : Cx p s m args meth c cX0_placeOf 2 (some .int) RX0 wsX0_placeOf D (tyL cB cI cZ) A)  (z : Sg) (hp : pX0_placeOf_b19  post  z) : WW p l e rmX0_placeOf s m args below meth c 2 D A (cW ad cB cI cZ) (QI below args s D (tyL cB cI cZ) (cW ad cB cI cZ) A post) z 19 [(0, .ref (ad 12))] [] := by
  unfold pX0_placeOf_b19 at hp
  refine ww_iconst X (v := 0) dX0_placeOf_19 (by decide) ?_
  exact wX0_placeOf_b20 X  0 z hp
set_option maxHeartbeats 4000000 in
set_option maxRecDepth 100000 in
theorem kX0_placeOf (l : Launch) (D : va_G) (ad : Nat → Nat) (cB cI cZ : ClassId) (a1 : Int32) (z : Sg) (post : Int32 → Sg → Prop) (hp : pX0_placeOf a1 z post) : Ci l D (tyL cB cI cZ) (cW ad cB cI cZ) yX0_placeOf wsX0_placeOf rmX0_placeOf [.ref (ad 12), .int a1] z post := by
  refine Ci.of (cc := cX0_placeOf) (maxL := 2) (ret := (some .int)) (by decide) rfl (Nat.le_of_ble_eq_true rfl) ?_
  intro p e s m args below meth c A X
  have X : Cx p s m args meth c cX0_placeOf 2 (some .int) RX0 wsX0_placeOf D (tyL cB cI cZ) A := X
  show WW p l e rmX0_placeOf s m args below meth c 2 D A (cW ad cB cI cZ) (QI below args s D (tyL cB cI cZ) (cW ad cB cI cZ) A post) z 0 [(0, .ref (ad 12)), (1, .int a1)] []
  unfold pX0_placeOf at hp
  refine ww_iload_n X dX0_placeOf_0 1 rfl ?_
  refine ww_if_lt X (tgt := 19) dX0_placeOf_1 (by decide) (fun h1 => ?_) (fun h1 => ?_)
  · have hp := hp.1 h1
    exact ww_sub (lv' := [(0, .ref (ad 12))]) [0] rfl (wX0_placeOf_b19 X   z hp)
  · have hp := hp.2 h1
    refine ww_iload_n X dX0_placeOf_4 1 rfl ?_
    refine ww_bipush X (v := 24) dX0_placeOf_5 (by decide) ?_
    refine ww_icmp_ge X (tgt := 19) dX0_placeOf_7 (by decide) (fun h2 => ?_) (fun h2 => ?_)
    · have hp := hp.1 h2
      exact ww_sub (lv' := [(0, .ref (ad 12))]) [0] rfl (wX0_placeOf_b19 X   z hp)
    · have hp := hp.2 h2
      refine ww_aload_n X dX0_placeOf_10 0 rfl ?_
      refine ww_get X in_X0_placeOf_X0 12 cg_12 rfl 3 (by decide) (X.wd 1 rfl) (v := .ref (ad 16)) rfl dX0_placeOf_11 ?_
      refine ww_iload_n X dX0_placeOf_14 1 rfl ?_
      obtain ⟨h3, hp⟩ := hp
      refine ww_iald X 16 1 cg_16 rfl (v := (gA z 11 a1)) h3 rfl dX0_placeOf_15 ?_
      refine ww_goto X (tgt := 20) dX0_placeOf_16 (by decide) ?_
      exact ww_sub (lv' := [(0, .ref (ad 12))]) [0] rfl (wX0_placeOf_b20 X  (gA z 11 a1) z hp)
set_option maxHeartbeats 4000000 in
set_option maxRecDepth 100000 in
theorem wX0_aheadInRoundZeroo_b89 {p : Program} {l : Launch} {e : Env} {s : State} {m : MethodId} {args : Array Value} {below : List Frame} {meth : Method} {c : Code} {D : va_G} {A : Nat → Prop} {ad : Nat → Nat} {cB cI cZ : ClassId} {post : Int32 → Sg → Prop} {K21 : Int32 → Int32 → Int32 → Int32 → Sg → Prop} (X : Cx p s m args meth c cX0_aheadInRoundZero 7 (some .int) RX0 wsX0_aheadInRoundZero D (tyL cB cI cZ) A) (hK21 : ∀ (x1 x3 x4 x5 : Int32) (z : Sg), K21 x1 x3 x4 x5 z → WW p l e rmX0_aheadInRoundZeroo s m args below meth c 7 D A (cW ad cB cI cZ) (QI below args s D (tyL cB cI cZ) (cW ad cB cI cZ) A post) z 21 [(0, .ref (ad 18)), (1, .int x1), (2, .ref (ad 3)), (3, .int x3), (4, .int x4), (5, .int x5)] []) (x1 x3 x5 y0 y1 : Int32) (z : Sg) (hp : pX0_aheadInRoundZeroo_b89 K21 post x1 x3 x5 y0 y1 z) : WW p l e rmX0_aheadInRoundZeroo s m args below meth c 7 D A (cW ad cB cI cZ) (QI below args s D (tyL cB cI cZ) (cW ad cB cI cZ) A post) z 89 [(0, .ref (ad 18)), (1, .int x1), (2, .ref (ad 3)), (3, .int x3), (5, .int x5)] [.int y0, .int y1] := by
  unfold pX0_aheadInRoundZeroo_b89 at hp
  refine ww_iadd X dX0_aheadInRoundZero_89 ?_
  refine ww_top (fun v1 hv1 => ?_)
  have hp := hp v1 hv1
  refine ww_istore X (lv' := [(4, .int v1), (0, .ref (ad 18)), (1, .int x1), (2, .ref (ad 3)), (3, .int x3), (5, .int x5)]) dX0_aheadInRoundZero_90 (by decide) rfl ?_
  refine ww_iinc X (v := (x5 + 1)) (lv' := [(5, .int (x5 + 1)), (4, .int v1), (0, .ref (ad 18)), (1, .int x1), (2, .ref (ad 3)), (3, .int x3)]) dX0_aheadInRoundZero_92 5 rfl rfl (by decide) rfl ?_
  refine ww_goto X (tgt := 21) dX0_aheadInRoundZero_95 (by decide) ?_
  exact ww_sub (lv' := [(0, .ref (ad 18)), (1, .int x1), (2, .ref (ad 3)), (3, .int x3), (4, .int v1), (5, .int (x5 + 1))]) [2, 3, 4, 5, 1, 0] rfl (hK21 x1 x3 v1 (x5 + 1) z hp)
set_option maxHeartbeats 4000000 in
set_option maxRecDepth 100000 in
theorem wX0_aheadInRoundZeroo_b75 {p : Program} {l : Launch} {e : Env} {s : State} {m : MethodId} {args : Array Value} {below : List Frame} {meth : Method} {c : Code} {D : va_G} {A : Nat → Prop} {ad : Nat → Nat} {cB cI cZ : ClassId} {post : Int32 → Sg → Prop} {K21 : Int32 → Int32 → Int32 → Int32 → Sg → Prop} (X : Cx p s m args meth c cX0_aheadInRoundZero 7 (some .int) RX0 wsX0_aheadInRoundZero D (tyL cB cI cZ) A) (hK21 : ∀ (x1 x3 x4 x5 : Int32) (z : Sg), K21 x1 x3 x4 x5 z → WW p l e rmX0_aheadInRoundZeroo s m args below meth c 7 D A (cW ad cB cI cZ) (QI below args s D (tyL cB cI cZ) (cW ad cB cI cZ) A post) z 21 [(0, .ref (ad 18)), (1, .int x1), (2, .ref (ad 3)), (3, .int x3), (4, .int x4), (5, .int x5)] []) (x1 x3 x4 x5 y0 : Int32) (z : Sg) (hp : pX0_aheadInRoundZeroo_b75 K21 post x1 x3 x4 x5 y0 z) : WW p l e rmX0_aheadInRoundZeroo s m args below meth c 7 D A (cW ad cB cI cZ) (QI below args s D (tyL cB cI cZ) (cW ad cB cI cZ) A post) z 75 [(0, .ref (ad 18)), (1, .int x1), (2, .ref (ad 3)), (3, .int x3), (4, .int x4), (5, .int x5)] [.int y0] := by
  unfold pX0_aheadInRoundZeroo_b75 at hp
  refine ww_istore X (lv' := [(6, .int y0), (0, .ref (ad 18)), (1, .int x1), (2, .ref (ad 3)), (3, .int x3), (4, .int x4), (5, .int x5)]) dX0_aheadInRoundZero_75 (by decide) rfl ?_
  refine ww_iload X dX0_aheadInRoundZero_77 5 rfl ?_
  refine ww_iload X dX0_aheadInRoundZero_79 0 rfl ?_
  refine ww_if_eq X (tgt := 88) dX0_aheadInRoundZero_81 (by decide) (fun h1 => ?_) (fun h1 => ?_)
  · have hp := hp.1 h1
    refine ww_iconst X (v := 0) dX0_aheadInRoundZero_88 (by decide) ?_
    exact ww_sub (lv' := [(0, .ref (ad 18)), (1, .int x1), (2, .ref (ad 3)), (3, .int x3), (5, .int x5)]) [1, 2, 3, 4, 6] rfl (wX0_aheadInRoundZeroo_b89 X hK21 x1 x3 x5 0 x4 z hp)
  · have hp := hp.2 h1
    refine ww_iconst X (v := 1) dX0_aheadInRoundZero_84 (by decide) ?_
    refine ww_goto X (tgt := 89) dX0_aheadInRoundZero_85 (by decide) ?_
    exact ww_sub (lv' := [(0, .ref (ad 18)), (1, .int x1), (2, .ref (ad 3)), (3, .int x3), (5, .int x5)]) [1, 2, 3, 4, 6] rfl (wX0_aheadInRoundZeroo_b89 X hK21 x1 x3 x5 1 x4 z hp)
set_option maxHeartbeats 4000000 in
set_option maxRecDepth 100000 in
theorem wX0_aheadInRoundZeroo_b74 {p : Program} {l : Launch} {e : Env} {s : State} {m : MethodId} {args : Array Value} {below : List Frame} {meth : Method} {c : Code} {D : va_G} {A : Nat → Prop} {ad : Nat → Nat} {cB cI cZ : ClassId} {post : Int32 → Sg → Prop} {K21 : Int32 → Int32 → Int32 → Int32 → Sg → Prop} (X : Cx p s m args meth c cX0_aheadInRoundZero 7 (some .int) RX0 wsX0_aheadInRoundZero D (tyL cB cI cZ) A) (hK21 : ∀ (x1 x3 x4 x5 : Int32) (z : Sg), K21 x1 x3 x4 x5 z → WW p l e rmX0_aheadInRoundZeroo s m args below meth c 7 D A (cW ad cB cI cZ) (QI below args s D (tyL cB cI cZ) (cW ad cB cI cZ) A post) z 21 [(0, .ref (ad 18)), (1, .int x1), (2, .ref (ad 3)), (3, .int x3), (4, .int x4), (5, .int x5)] []) (x1 x3 x4 x5 : Int32) (z : Sg) (hp : pX0_aheadInRoundZeroo_b74 K21 post x1 x3 x4 x5 z) : WW p l e rmX0_aheadInRoundZeroo s m args below meth c 7 D A (cW ad cB cI cZ) (QI below args s D (tyL cB cI cZ) (cW ad cB cI cZ) A post) z 74 [(0, .ref (ad 18)), (1, .int x1), (2, .ref (ad 3)), (3, .int x3), (4, .int x4), (5, .int x5)] [] := by
  unfold pX0_aheadInRoundZeroo_b74 at hp
  refine ww_iconst X (v := 0) dX0_aheadInRoundZero_74 (by decide) ?_
  exact wX0_aheadInRoundZeroo_b75 X hK21 x1 x3 x4 x5 0 z hp
set_option maxHeartbeats 4000000 in
set_option maxRecDepth 100000 in
theorem wX0_aheadInRoundZeroo_b70 {p : Program} {l : Launch} {e : Env} {s : State} {m : MethodId} {args : Array Value} {below : List Frame} {meth : Method} {c : Code} {D : va_G} {A : Nat → Prop} {ad : Nat → Nat} {cB cI cZ : ClassId} {post : Int32 → Sg → Prop} {K21 : Int32 → Int32 → Int32 → Int32 → Sg → Prop} (X : Cx p s m args meth c cX0_aheadInRoundZero 7 (some .int) RX0 wsX0_aheadInRoundZero D (tyL cB cI cZ) A) (hK21 : ∀ (x1 x3 x4 x5 : Int32) (z : Sg), K21 x1 x3 x4 x5 z → WW p l e rmX0_aheadInRoundZeroo s m args below meth c 7 D A (cW ad cB cI cZ) (QI below args s D (tyL cB cI cZ) (cW ad cB cI cZ) A post) z 21 [(0, .ref (ad 18)), (1, .int x1), (2, .ref (ad 3)), (3, .int x3), (4, .int x4), (5, .int x5)] []) (x1 x3 x4 x5 : Int32) (z : Sg) (hp : pX0_aheadInRoundZeroo_b70 K21 post x1 x3 x4 x5 z) : WW p l e rmX0_aheadInRoundZeroo s m args below meth c 7 D A (cW ad cB cI cZ) (QI below args s D (tyL cB cI cZ) (cW ad cB cI cZ) A post) z 70 [(0, .ref (ad 18)), (1, .int x1), (2, .ref (ad 3)), (3, .int x3), (4, .int x4), (5, .int x5)] [] := by
  unfold pX0_aheadInRoundZeroo_b70 at hp
  refine ww_iconst X (v := 1) dX0_aheadInRoundZero_70 (by decide) ?_
  refine ww_goto X (tgt := 75) dX0_aheadInRoundZero_71 (by decide) ?_
  exact wX0_aheadInRoundZeroo_b75 X hK21 x1 x3 x4 x5 1 z hp
set_option maxHeartbeats 4000000 in
set_option maxRecDepth 100000 in
theorem wX0_aheadInRoundZeroo_b21 {p : Program} {l : Launch} {e : Env} {s : State} {m : MethodId} {args : Array Value} {below : List Frame} {meth : Method} {c : Code} {D : va_G} {A : Nat → Prop} {ad : Nat → Nat} {cB cI cZ : ClassId} {post : Int32 → Sg → Prop} {K21 : Int32 → Int32 → Int32 → Int32 → Sg → Prop} (X : Cx p s m args meth c cX0_aheadInRoundZero 7 (some .int) RX0 wsX0_aheadInRoundZero D (tyL cB cI cZ) A) (hK21 : ∀ (x1 x3 x4 x5 : Int32) (z : Sg), K21 x1 x3 x4 x5 z → WW p l e rmX0_aheadInRoundZeroo s m args below meth c 7 D A (cW ad cB cI cZ) (QI below args s D (tyL cB cI cZ) (cW ad cB cI cZ) A post) z 21 [(0, .ref (ad 18)), (1, .int x1), (2, .ref (ad 3)), (3, .int x3), (4, .int x4), (5, .int x5)] []) (x1 x3 x4 x5 : Int32) (z : Sg) (hp : pX0_aheadInRoundZeroo_b21 K21 post x1 x3 x4 x5 z) : WW p l e rmX0_aheadInRoundZeroo s m args below meth c 7 D A (cW ad cB cI cZ) (QI below args s D (tyL cB cI cZ) (cW ad cB cI cZ) A post) z 21 [(0, .ref (ad 18)), (1, .int x1), (2, .ref (ad 3)), (3, .int x3), (4, .int x4), (5, .int x5)] [] := by
  unfold pX0_aheadInRoundZeroo_b21 at hp
  refine ww_iload X dX0_aheadInRoundZero_21 5 rfl ?_
  refine ww_bipush X (v := 24) dX0_aheadInRoundZero_23 (by decide) ?_
  refine ww_icmp_ge X (tgt := 98) dX0_aheadInRoundZero_25 (by decide) (fun h1 => ?_) (fun h1 => ?_)
  · have hp := hp.1 h1
    refine ww_iload X dX0_aheadInRoundZero_98 4 rfl ?_
    exact ww_iret X hp dX0_aheadInRoundZero_100
  · have hp := hp.2 h1
    refine ww_aload_n X dX0_aheadInRoundZero_28 0 rfl ?_
    refine ww_get X in_X0_aheadInRoundZero_X0 18 cg_18 rfl 0 (by decide) (X.wd 1 rfl) (v := .ref (ad 19)) rfl dX0_aheadInRoundZero_29 ?_
    refine ww_iload X dX0_aheadInRoundZero_32 5 rfl ?_
    obtain ⟨h2, hp⟩ := hp
    refine ww_iald X 19 1 cg_19 rfl (v := (gA z 13 x5)) h2 rfl dX0_aheadInRoundZero_34 ?_
    refine ww_aload_n X dX0_aheadInRoundZero_35 0 rfl ?_
    refine ww_get X in_X0_aheadInRoundZero_X0 18 cg_18 rfl 0 (by decide) (X.wd 1 rfl) (v := .ref (ad 19)) rfl dX0_aheadInRoundZero_36 ?_
    refine ww_iload_n X dX0_aheadInRoundZero_39 1 rfl ?_
    obtain ⟨h3, hp⟩ := hp
    refine ww_iald X 19 1 cg_19 rfl (v := (gA z 13 x1)) h3 rfl dX0_aheadInRoundZero_40 ?_
    refine ww_icmp_gt X (tgt := 70) dX0_aheadInRoundZero_41 (by decide) (fun h4 => ?_) (fun h4 => ?_)
    · have hp := hp.1 h4
      exact wX0_aheadInRoundZeroo_b70 X hK21 x1 x3 x4 x5 z hp
    · have hp := hp.2 h4
      refine ww_iload_n X dX0_aheadInRoundZero_44 3 rfl ?_
      refine ww_if_eq X (tgt := 74) dX0_aheadInRoundZero_45 (by decide) (fun h5 => ?_) (fun h5 => ?_)
      · have hp := hp.1 h5
        exact wX0_aheadInRoundZeroo_b74 X hK21 x1 x3 x4 x5 z hp
      · have hp := hp.2 h5
        refine ww_aload_n X dX0_aheadInRoundZero_48 0 rfl ?_
        refine ww_get X in_X0_aheadInRoundZero_X0 18 cg_18 rfl 0 (by decide) (X.wd 1 rfl) (v := .ref (ad 19)) rfl dX0_aheadInRoundZero_49 ?_
        refine ww_iload X dX0_aheadInRoundZero_52 5 rfl ?_
        obtain ⟨h6, hp⟩ := hp
        refine ww_iald X 19 1 cg_19 rfl (v := (gA z 13 x5)) h6 rfl dX0_aheadInRoundZero_54 ?_
        refine ww_aload_n X dX0_aheadInRoundZero_55 0 rfl ?_
        refine ww_get X in_X0_aheadInRoundZero_X0 18 cg_18 rfl 0 (by decide) (X.wd 1 rfl) (v := .ref (ad 19)) rfl dX0_aheadInRoundZero_56 ?_
        refine ww_iload_n X dX0_aheadInRoundZero_59 1 rfl ?_
        obtain ⟨h7, hp⟩ := hp
        refine ww_iald X 19 1 cg_19 rfl (v := (gA z 13 x1)) h7 rfl dX0_aheadInRoundZero_60 ?_
        refine ww_icmp_ne X (tgt := 74) dX0_aheadInRoundZero_61 (by decide) (fun h8 => ?_) (fun h8 => ?_)
        · have hp := hp.1 h8
          exact wX0_aheadInRoundZeroo_b74 X hK21 x1 x3 x4 x5 z hp
        · have hp := hp.2 h8
          refine ww_iload X dX0_aheadInRoundZero_64 5 rfl ?_
          refine ww_iload_n X dX0_aheadInRoundZero_66 1 rfl ?_
          refine ww_icmp_ge X (tgt := 74) dX0_aheadInRoundZero_67 (by decide) (fun h9 => ?_) (fun h9 => ?_)
          · have hp := hp.1 h9
            exact wX0_aheadInRoundZeroo_b74 X hK21 x1 x3 x4 x5 z hp
          · have hp := hp.2 h9
            exact wX0_aheadInRoundZeroo_b70 X hK21 x1 x3 x4 x5 z hp
set_option maxHeartbeats 4000000 in
set_option maxRecDepth 100000 in
theorem wX0_aheadInRoundZeroo_l21 {p : Program} {l : Launch} {e : Env} {s : State} {m : MethodId} {args : Array Value} {below : List Frame} {meth : Method} {c : Code} {D : va_G} {A : Nat → Prop} {ad : Nat → Nat} {cB cI cZ : ClassId} {post : Int32 → Sg → Prop}  (X : Cx p s m args meth c cX0_aheadInRoundZero 7 (some .int) RX0 wsX0_aheadInRoundZero D (tyL cB cI cZ) A)  (x1 x3 x4 x5 : Int32) (z : Sg) (hp : pX0_aheadInRoundZeroo_l21  post x1 x3 x4 x5 z) : WW p l e rmX0_aheadInRoundZeroo s m args below meth c 7 D A (cW ad cB cI cZ) (QI below args s D (tyL cB cI cZ) (cW ad cB cI cZ) A post) z 21 [(0, .ref (ad 18)), (1, .int x1), (2, .ref (ad 3)), (3, .int x3), (4, .int x4), (5, .int x5)] [] := by
  have key := lp_walk (F := (fun (K : Int32 × Int32 × Int32 × Int32 → Sg → Prop) (a : Int32 × Int32 × Int32 × Int32) (z : Sg) => pX0_aheadInRoundZeroo_b21 (fun (x1 x3 x4 x5 : Int32) z => K (x1, x3, x4, x5) z) post a.1 a.2.1 a.2.2.1 a.2.2.2 z)) (P := fun a z => WW p l e rmX0_aheadInRoundZeroo s m args below meth c 7 D A (cW ad cB cI cZ) (QI below args s D (tyL cB cI cZ) (cW ad cB cI cZ) A post) z 21 [(0, .ref (ad 18)), (1, .int a.1), (2, .ref (ad 3)), (3, .int a.2.1), (4, .int a.2.2.1), (5, .int a.2.2.2)] []) (fun K hK a z hp => wX0_aheadInRoundZeroo_b21 X (fun x1 x3 x4 x5 z h => hK (x1, x3, x4, x5) z h) a.1 a.2.1 a.2.2.1 a.2.2.2 z hp)
  exact key (x1, x3, x4, x5) z hp
set_option maxHeartbeats 4000000 in
set_option maxRecDepth 100000 in
theorem wX0_aheadInRoundZeroo_b14 {p : Program} {l : Launch} {e : Env} {s : State} {m : MethodId} {args : Array Value} {below : List Frame} {meth : Method} {c : Code} {D : va_G} {A : Nat → Prop} {ad : Nat → Nat} {cB cI cZ : ClassId} {post : Int32 → Sg → Prop}  (X : Cx p s m args meth c cX0_aheadInRoundZero 7 (some .int) RX0 wsX0_aheadInRoundZero D (tyL cB cI cZ) A)  (x1 y0 : Int32) (z : Sg) (hp : pX0_aheadInRoundZeroo_b14  post x1 y0 z) : WW p l e rmX0_aheadInRoundZeroo s m args below meth c 7 D A (cW ad cB cI cZ) (QI below args s D (tyL cB cI cZ) (cW ad cB cI cZ) A post) z 14 [(0, .ref (ad 18)), (1, .int x1), (2, .ref (ad 3))] [.int y0] := by
  unfold pX0_aheadInRoundZeroo_b14 at hp
  refine ww_istore_n X (lv' := [(3, .int y0), (0, .ref (ad 18)), (1, .int x1), (2, .ref (ad 3))]) dX0_aheadInRoundZero_14 (by decide) rfl ?_
  refine ww_iconst X (v := 0) dX0_aheadInRoundZero_15 (by decide) ?_
  refine ww_istore X (lv' := [(4, .int 0), (3, .int y0), (0, .ref (ad 18)), (1, .int x1), (2, .ref (ad 3))]) dX0_aheadInRoundZero_16 (by decide) rfl ?_
  refine ww_iconst X (v := 0) dX0_aheadInRoundZero_18 (by decide) ?_
  refine ww_istore X (lv' := [(5, .int 0), (4, .int 0), (3, .int y0), (0, .ref (ad 18)), (1, .int x1), (2, .ref (ad 3))]) dX0_aheadInRoundZero_19 (by decide) rfl ?_
  exact ww_sub (lv' := [(0, .ref (ad 18)), (1, .int x1), (2, .ref (ad 3)), (3, .int y0), (4, .int 0), (5, .int 0)]) [3, 4, 5, 2, 1, 0] rfl (wX0_aheadInRoundZeroo_l21 X  x1 y0 0 0 z hp)
set_option maxHeartbeats 4000000 in
set_option maxRecDepth 100000 in
theorem kX0_aheadInRoundZeroo (l : Launch) (D : va_G) (ad : Nat → Nat) (cB cI cZ : ClassId) (a1 : Int32) (z : Sg) (post : Int32 → Sg → Prop) (hp : pX0_aheadInRoundZeroo a1 z post) : Ci l D (tyL cB cI cZ) (cW ad cB cI cZ) yX0_aheadInRoundZero wsX0_aheadInRoundZero rmX0_aheadInRoundZeroo [.ref (ad 18), .int a1, .ref (ad 3)] z post := by
  refine Ci.of (cc := cX0_aheadInRoundZero) (maxL := 7) (ret := (some .int)) (by decide) rfl (Nat.le_of_ble_eq_true rfl) ?_
  intro p e s m args below meth c A X
  have X : Cx p s m args meth c cX0_aheadInRoundZero 7 (some .int) RX0 wsX0_aheadInRoundZero D (tyL cB cI cZ) A := X
  show WW p l e rmX0_aheadInRoundZeroo s m args below meth c 7 D A (cW ad cB cI cZ) (QI below args s D (tyL cB cI cZ) (cW ad cB cI cZ) A post) z 0 [(0, .ref (ad 18)), (1, .int a1), (2, .ref (ad 3))] []
  unfold pX0_aheadInRoundZeroo at hp
  refine ww_aload_n X dX0_aheadInRoundZero_0 2 rfl ?_
  refine ww_bipush X (v := 6) dX0_aheadInRoundZero_1 (by decide) ?_
  refine ww_callN_i X (As := [.int 6]) (rest := []) (kX2_number l D ad cB cI cZ 6 z _ hp) (⟨va_cnB 1 X.hts gX0_aheadInRoundZero_X2_number_n59 rfl rfl rfl (X.hE.2 _ (List.mem_of_getElem? (i := 40) rfl)) (X.wd 3 rfl) hn_X2_number ⟨Nat.le_of_ble_eq_true rfl, Nat.le_of_ble_eq_true rfl⟩, (X.wd 2 rfl), (X.wd 4 rfl)⟩) 3 2 cg_3 rfl rfl rfl rfl (Nat.le_of_ble_eq_true rfl) dX0_aheadInRoundZero_3 (fun r2 u1 hp => ?_)
  refine ww_if_ne X (tgt := 13) dX0_aheadInRoundZero_6 (by decide) (fun h3 => ?_) (fun h3 => ?_)
  · have hp := hp.1 h3
    refine ww_iconst X (v := 0) dX0_aheadInRoundZero_13 (by decide) ?_
    exact wX0_aheadInRoundZeroo_b14 X  a1 0 u1 hp
  · have hp := hp.2 h3
    refine ww_iconst X (v := 1) dX0_aheadInRoundZero_9 (by decide) ?_
    refine ww_goto X (tgt := 14) dX0_aheadInRoundZero_10 (by decide) ?_
    exact wX0_aheadInRoundZeroo_b14 X  a1 1 u1 hp
set_option maxHeartbeats 4000000 in
set_option maxRecDepth 100000 in
theorem wX0_isBettero_b44 {p : Program} {l : Launch} {e : Env} {s : State} {m : MethodId} {args : Array Value} {below : List Frame} {meth : Method} {c : Code} {D : va_G} {A : Nat → Prop} {ad : Nat → Nat} {cB cI cZ : ClassId} {post : Int32 → Sg → Prop}  (X : Cx p s m args meth c cX0_isBetter 3 (some .boolean) RX0 wsX0_isBetter D (tyL cB cI cZ) A)  (y0 : Int32) (z : Sg) (hp : pX0_isBettero_b44  post y0 z) : WW p l e rmX0_isBettero s m args below meth c 3 D A (cW ad cB cI cZ) (QI below args s D (tyL cB cI cZ) (cW ad cB cI cZ) A post) z 44 [(0, .ref (ad 18))] [.int y0] := by
  unfold pX0_isBettero_b44 at hp
  exact ww_zret X hp.1 hp.2 dX0_isBetter_44
set_option maxHeartbeats 4000000 in
set_option maxRecDepth 100000 in
theorem kX0_isBettero (l : Launch) (D : va_G) (ad : Nat → Nat) (cB cI cZ : ClassId) (a1 a2 : Int32) (z : Sg) (post : Int32 → Sg → Prop) (hp : pX0_isBettero a1 a2 z post) : Ci l D (tyL cB cI cZ) (cW ad cB cI cZ) yX0_isBetter wsX0_isBetter rmX0_isBettero [.ref (ad 18), .int a1, .int a2] z post := by
  refine Ci.of (cc := cX0_isBetter) (maxL := 3) (ret := (some .boolean)) (by decide) rfl (Nat.le_of_ble_eq_true rfl) ?_
  intro p e s m args below meth c A X
  have X : Cx p s m args meth c cX0_isBetter 3 (some .boolean) RX0 wsX0_isBetter D (tyL cB cI cZ) A := X
  show WW p l e rmX0_isBettero s m args below meth c 3 D A (cW ad cB cI cZ) (QI below args s D (tyL cB cI cZ) (cW ad cB cI cZ) A post) z 0 [(0, .ref (ad 18)), (1, .int a1), (2, .int a2)] []
  unfold pX0_isBettero at hp
  refine ww_aload_n X dX0_isBetter_0 0 rfl ?_
  refine ww_get X in_X0_isBetter_X0 18 cg_18 rfl 1 (by decide) (X.wd 1 rfl) (v := .ref (ad 20)) rfl dX0_isBetter_1 ?_
  refine ww_iload_n X dX0_isBetter_4 1 rfl ?_
  obtain ⟨h1, hp⟩ := hp
  refine ww_zald X 20 2 cg_20 rfl (v := (gA z 14 a1)) h1 rfl dX0_isBetter_5 ?_
  refine ww_aload_n X dX0_isBetter_6 0 rfl ?_
  refine ww_get X in_X0_isBetter_X0 18 cg_18 rfl 1 (by decide) (X.wd 1 rfl) (v := .ref (ad 20)) rfl dX0_isBetter_7 ?_
  refine ww_iload_n X dX0_isBetter_10 2 rfl ?_
  obtain ⟨h2, hp⟩ := hp
  refine ww_zald X 20 2 cg_20 rfl (v := (gA z 14 a2)) h2 rfl dX0_isBetter_11 ?_
  refine ww_icmp_ne X (tgt := 38) dX0_isBetter_12 (by decide) (fun h3 => ?_) (fun h3 => ?_)
  · have hp := hp.1 h3
    refine ww_aload_n X dX0_isBetter_38 0 rfl ?_
    refine ww_get X in_X0_isBetter_X0 18 cg_18 rfl 1 (by decide) (X.wd 1 rfl) (v := .ref (ad 20)) rfl dX0_isBetter_39 ?_
    refine ww_iload_n X dX0_isBetter_42 1 rfl ?_
    obtain ⟨h4, hp⟩ := hp
    refine ww_zald X 20 2 cg_20 rfl (v := (gA z 14 a1)) h4 rfl dX0_isBetter_43 ?_
    exact ww_sub (lv' := [(0, .ref (ad 18))]) [0] rfl (wX0_isBettero_b44 X  (gA z 14 a1) z hp)
  · have hp := hp.2 h3
    refine ww_aload_n X dX0_isBetter_15 0 rfl ?_
    refine ww_get X in_X0_isBetter_X0 18 cg_18 rfl 2 (by decide) (X.wd 2 rfl) (v := .ref (ad 21)) rfl dX0_isBetter_16 ?_
    refine ww_iload_n X dX0_isBetter_19 1 rfl ?_
    obtain ⟨h5, hp⟩ := hp
    refine ww_iald X 21 1 cg_21 rfl (v := (gA z 15 a1)) h5 rfl dX0_isBetter_20 ?_
    refine ww_aload_n X dX0_isBetter_21 0 rfl ?_
    refine ww_get X in_X0_isBetter_X0 18 cg_18 rfl 2 (by decide) (X.wd 2 rfl) (v := .ref (ad 21)) rfl dX0_isBetter_22 ?_
    refine ww_iload_n X dX0_isBetter_25 2 rfl ?_
    obtain ⟨h6, hp⟩ := hp
    refine ww_iald X 21 1 cg_21 rfl (v := (gA z 15 a2)) h6 rfl dX0_isBetter_26 ?_
    refine ww_icmp_le X (tgt := 34) dX0_isBetter_27 (by decide) (fun h7 => ?_) (fun h7 => ?_)
    · have hp := hp.1 h7
      refine ww_iconst X (v := 0) dX0_isBetter_34 (by decide) ?_
      refine ww_goto X (tgt := 44) dX0_isBetter_35 (by decide) ?_
      exact ww_sub (lv' := [(0, .ref (ad 18))]) [0] rfl (wX0_isBettero_b44 X  0 z hp)
    · have hp := hp.2 h7
      refine ww_iconst X (v := 1) dX0_isBetter_30 (by decide) ?_
      refine ww_goto X (tgt := 44) dX0_isBetter_31 (by decide) ?_
      exact ww_sub (lv' := [(0, .ref (ad 18))]) [0] rfl (wX0_isBettero_b44 X  1 z hp)
set_option maxHeartbeats 4000000 in
set_option maxRecDepth 100000 in
theorem wX0_placeOnListo_b140 {p : Program} {l : Launch} {e : Env} {s : State} {m : MethodId} {args : Array Value} {below : List Frame} {meth : Method} {c : Code} {D : va_G} {A : Nat → Prop} {ad : Nat → Nat} {cB cI cZ : ClassId} {post : Sg → Prop}  (X : Cx p s m args meth c cX0_placeOnList 5 none RX0 wsX0_placeOnList D (tyL cB cI cZ) A)  (z : Sg) (hp : pX0_placeOnListo_b140  post  z) : WW p l e rmX0_placeOnListo s m args below meth c 5 D A (cW ad cB cI cZ) (QV below args s D (tyL cB cI cZ) (cW ad cB cI cZ) A post) z 140 [(0, .ref (ad 18))] [] := by
  unfold pX0_placeOnListo_b140 at hp
  exact ww_vret X hp dX0_placeOnList_140
set_option maxHeartbeats 4000000 in
set_option maxRecDepth 100000 in
theorem wX0_placeOnListo_b105 {p : Program} {l : Launch} {e : Env} {s : State} {m : MethodId} {args : Array Value} {below : List Frame} {meth : Method} {c : Code} {D : va_G} {A : Nat → Prop} {ad : Nat → Nat} {cB cI cZ : ClassId} {post : Sg → Prop} {K24 : Int32 → Int32 → Int32 → Int32 → Sg → Prop} (X : Cx p s m args meth c cX0_placeOnList 5 none RX0 wsX0_placeOnList D (tyL cB cI cZ) A) (hK24 : ∀ (x1 x2 x3 x4 : Int32) (z : Sg), K24 x1 x2 x3 x4 z → WW p l e rmX0_placeOnListo s m args below meth c 5 D A (cW ad cB cI cZ) (QV below args s D (tyL cB cI cZ) (cW ad cB cI cZ) A post) z 24 [(0, .ref (ad 18)), (1, .int x1), (2, .int x2), (3, .int x3), (4, .int x4)] []) (x1 x2 x3 x4 : Int32) (z : Sg) (hp : pX0_placeOnListo_b105 K24 post x1 x2 x3 x4 z) : WW p l e rmX0_placeOnListo s m args below meth c 5 D A (cW ad cB cI cZ) (QV below args s D (tyL cB cI cZ) (cW ad cB cI cZ) A post) z 105 [(0, .ref (ad 18)), (1, .int x1), (2, .int x2), (3, .int x3), (4, .int x4)] [] := by
  unfold pX0_placeOnListo_b105 at hp
  refine ww_iinc X (v := (x4 + 1)) (lv' := [(4, .int (x4 + 1)), (0, .ref (ad 18)), (1, .int x1), (2, .int x2), (3, .int x3)]) dX0_placeOnList_105 4 rfl rfl (by decide) rfl ?_
  refine ww_goto X (tgt := 24) dX0_placeOnList_108 (by decide) ?_
  exact ww_sub (lv' := [(0, .ref (ad 18)), (1, .int x1), (2, .int x2), (3, .int x3), (4, .int (x4 + 1))]) [1, 2, 3, 4, 0] rfl (hK24 x1 x2 x3 (x4 + 1) z hp)
set_option maxHeartbeats 4000000 in
set_option maxRecDepth 100000 in
theorem wX0_placeOnListo_b103 {p : Program} {l : Launch} {e : Env} {s : State} {m : MethodId} {args : Array Value} {below : List Frame} {meth : Method} {c : Code} {D : va_G} {A : Nat → Prop} {ad : Nat → Nat} {cB cI cZ : ClassId} {post : Sg → Prop} {K24 : Int32 → Int32 → Int32 → Int32 → Sg → Prop} (X : Cx p s m args meth c cX0_placeOnList 5 none RX0 wsX0_placeOnList D (tyL cB cI cZ) A) (hK24 : ∀ (x1 x2 x3 x4 : Int32) (z : Sg), K24 x1 x2 x3 x4 z → WW p l e rmX0_placeOnListo s m args below meth c 5 D A (cW ad cB cI cZ) (QV below args s D (tyL cB cI cZ) (cW ad cB cI cZ) A post) z 24 [(0, .ref (ad 18)), (1, .int x1), (2, .int x2), (3, .int x3), (4, .int x4)] []) (x1 x2 x4 y0 y1 : Int32) (z : Sg) (hp : pX0_placeOnListo_b103 K24 post x1 x2 x4 y0 y1 z) : WW p l e rmX0_placeOnListo s m args below meth c 5 D A (cW ad cB cI cZ) (QV below args s D (tyL cB cI cZ) (cW ad cB cI cZ) A post) z 103 [(0, .ref (ad 18)), (1, .int x1), (2, .int x2), (4, .int x4)] [.int y0, .int y1] := by
  unfold pX0_placeOnListo_b103 at hp
  refine ww_iadd X dX0_placeOnList_103 ?_
  refine ww_top (fun v1 hv1 => ?_)
  have hp := hp v1 hv1
  refine ww_istore_n X (lv' := [(3, .int v1), (0, .ref (ad 18)), (1, .int x1), (2, .int x2), (4, .int x4)]) dX0_placeOnList_104 (by decide) rfl ?_
  exact ww_sub (lv' := [(0, .ref (ad 18)), (1, .int x1), (2, .int x2), (3, .int v1), (4, .int x4)]) [1, 2, 3, 0, 4] rfl (wX0_placeOnListo_b105 X hK24 x1 x2 v1 x4 z hp)
set_option maxHeartbeats 4000000 in
set_option maxRecDepth 100000 in
theorem wX0_placeOnListo_b102 {p : Program} {l : Launch} {e : Env} {s : State} {m : MethodId} {args : Array Value} {below : List Frame} {meth : Method} {c : Code} {D : va_G} {A : Nat → Prop} {ad : Nat → Nat} {cB cI cZ : ClassId} {post : Sg → Prop} {K24 : Int32 → Int32 → Int32 → Int32 → Sg → Prop} (X : Cx p s m args meth c cX0_placeOnList 5 none RX0 wsX0_placeOnList D (tyL cB cI cZ) A) (hK24 : ∀ (x1 x2 x3 x4 : Int32) (z : Sg), K24 x1 x2 x3 x4 z → WW p l e rmX0_placeOnListo s m args below meth c 5 D A (cW ad cB cI cZ) (QV below args s D (tyL cB cI cZ) (cW ad cB cI cZ) A post) z 24 [(0, .ref (ad 18)), (1, .int x1), (2, .int x2), (3, .int x3), (4, .int x4)] []) (x1 x2 x4 y0 : Int32) (z : Sg) (hp : pX0_placeOnListo_b102 K24 post x1 x2 x4 y0 z) : WW p l e rmX0_placeOnListo s m args below meth c 5 D A (cW ad cB cI cZ) (QV below args s D (tyL cB cI cZ) (cW ad cB cI cZ) A post) z 102 [(0, .ref (ad 18)), (1, .int x1), (2, .int x2), (4, .int x4)] [.int y0] := by
  unfold pX0_placeOnListo_b102 at hp
  refine ww_iconst X (v := 0) dX0_placeOnList_102 (by decide) ?_
  exact wX0_placeOnListo_b103 X hK24 x1 x2 x4 0 y0 z hp
set_option maxHeartbeats 4000000 in
set_option maxRecDepth 100000 in
theorem wX0_placeOnListo_b57 {p : Program} {l : Launch} {e : Env} {s : State} {m : MethodId} {args : Array Value} {below : List Frame} {meth : Method} {c : Code} {D : va_G} {A : Nat → Prop} {ad : Nat → Nat} {cB cI cZ : ClassId} {post : Sg → Prop} {K24 : Int32 → Int32 → Int32 → Int32 → Sg → Prop} (X : Cx p s m args meth c cX0_placeOnList 5 none RX0 wsX0_placeOnList D (tyL cB cI cZ) A) (hK24 : ∀ (x1 x2 x3 x4 : Int32) (z : Sg), K24 x1 x2 x3 x4 z → WW p l e rmX0_placeOnListo s m args below meth c 5 D A (cW ad cB cI cZ) (QV below args s D (tyL cB cI cZ) (cW ad cB cI cZ) A post) z 24 [(0, .ref (ad 18)), (1, .int x1), (2, .int x2), (3, .int x3), (4, .int x4)] []) (x1 x3 x4 y0 y1 : Int32) (z : Sg) (hp : pX0_placeOnListo_b57 K24 post x1 x3 x4 y0 y1 z) : WW p l e rmX0_placeOnListo s m args below meth c 5 D A (cW ad cB cI cZ) (QV below args s D (tyL cB cI cZ) (cW ad cB cI cZ) A post) z 57 [(0, .ref (ad 18)), (1, .int x1), (3, .int x3), (4, .int x4)] [.int y0, .int y1] := by
  unfold pX0_placeOnListo_b57 at hp
  refine ww_iadd X dX0_placeOnList_57 ?_
  refine ww_top (fun v1 hv1 => ?_)
  have hp := hp v1 hv1
  refine ww_istore_n X (lv' := [(2, .int v1), (0, .ref (ad 18)), (1, .int x1), (3, .int x3), (4, .int x4)]) dX0_placeOnList_58 (by decide) rfl ?_
  refine ww_iload_n X dX0_placeOnList_59 3 rfl ?_
  refine ww_iload X dX0_placeOnList_60 4 rfl ?_
  refine ww_iload_n X dX0_placeOnList_62 2 rfl ?_
  refine ww_icmp_ge X (tgt := 102) dX0_placeOnList_63 (by decide) (fun h2 => ?_) (fun h2 => ?_)
  · have hp := hp.1 h2
    exact ww_sub (lv' := [(0, .ref (ad 18)), (1, .int x1), (2, .int v1), (4, .int x4)]) [1, 2, 0, 4] rfl (wX0_placeOnListo_b102 X hK24 x1 v1 x4 x3 z hp)
  · have hp := hp.2 h2
    refine ww_aload_n X dX0_placeOnList_66 1 rfl ?_
    refine ww_get X in_X0_placeOnList_X0 18 cg_18 rfl 1 (by decide) (X.wd 3 rfl) (v := .ref (ad 20)) rfl dX0_placeOnList_67 ?_
    refine ww_iload X dX0_placeOnList_70 4 rfl ?_
    obtain ⟨h3, hp⟩ := hp
    refine ww_zald X 20 2 cg_20 rfl (v := (gA z 14 x4)) h3 rfl dX0_placeOnList_72 ?_
    refine ww_aload_n X dX0_placeOnList_73 1 rfl ?_
    refine ww_get X in_X0_placeOnList_X0 18 cg_18 rfl 1 (by decide) (X.wd 3 rfl) (v := .ref (ad 20)) rfl dX0_placeOnList_74 ?_
    refine ww_iload_n X dX0_placeOnList_77 2 rfl ?_
    obtain ⟨h4, hp⟩ := hp
    refine ww_zald X 20 2 cg_20 rfl (v := (gA z 14 x1)) h4 rfl dX0_placeOnList_78 ?_
    refine ww_icmp_ne X (tgt := 102) dX0_placeOnList_79 (by decide) (fun h5 => ?_) (fun h5 => ?_)
    · have hp := hp.1 h5
      exact ww_sub (lv' := [(0, .ref (ad 18)), (1, .int x1), (2, .int v1), (4, .int x4)]) [1, 2, 0, 4] rfl (wX0_placeOnListo_b102 X hK24 x1 v1 x4 x3 z hp)
    · have hp := hp.2 h5
      refine ww_aload_n X dX0_placeOnList_82 1 rfl ?_
      refine ww_get X in_X0_placeOnList_X0 18 cg_18 rfl 2 (by decide) (X.wd 4 rfl) (v := .ref (ad 21)) rfl dX0_placeOnList_83 ?_
      refine ww_iload X dX0_placeOnList_86 4 rfl ?_
      obtain ⟨h6, hp⟩ := hp
      refine ww_iald X 21 1 cg_21 rfl (v := (gA z 15 x4)) h6 rfl dX0_placeOnList_88 ?_
      refine ww_aload_n X dX0_placeOnList_89 1 rfl ?_
      refine ww_get X in_X0_placeOnList_X0 18 cg_18 rfl 2 (by decide) (X.wd 4 rfl) (v := .ref (ad 21)) rfl dX0_placeOnList_90 ?_
      refine ww_iload_n X dX0_placeOnList_93 2 rfl ?_
      obtain ⟨h7, hp⟩ := hp
      refine ww_iald X 21 1 cg_21 rfl (v := (gA z 15 x1)) h7 rfl dX0_placeOnList_94 ?_
      refine ww_icmp_ne X (tgt := 102) dX0_placeOnList_95 (by decide) (fun h8 => ?_) (fun h8 => ?_)
      · have hp := hp.1 h8
        exact ww_sub (lv' := [(0, .ref (ad 18)), (1, .int x1), (2, .int v1), (4, .int x4)]) [1, 2, 0, 4] rfl (wX0_placeOnListo_b102 X hK24 x1 v1 x4 x3 z hp)
      · have hp := hp.2 h8
        refine ww_iconst X (v := 1) dX0_placeOnList_98 (by decide) ?_
        refine ww_goto X (tgt := 103) dX0_placeOnList_99 (by decide) ?_
        exact ww_sub (lv' := [(0, .ref (ad 18)), (1, .int x1), (2, .int v1), (4, .int x4)]) [1, 2, 0, 4] rfl (wX0_placeOnListo_b103 X hK24 x1 v1 x4 1 x3 z hp)
set_option maxHeartbeats 4000000 in
set_option maxRecDepth 100000 in
theorem wX0_placeOnListo_b24 {p : Program} {l : Launch} {e : Env} {s : State} {m : MethodId} {args : Array Value} {below : List Frame} {meth : Method} {c : Code} {D : va_G} {A : Nat → Prop} {ad : Nat → Nat} {cB cI cZ : ClassId} {post : Sg → Prop} {K24 : Int32 → Int32 → Int32 → Int32 → Sg → Prop} (X : Cx p s m args meth c cX0_placeOnList 5 none RX0 wsX0_placeOnList D (tyL cB cI cZ) A) (hK24 : ∀ (x1 x2 x3 x4 : Int32) (z : Sg), K24 x1 x2 x3 x4 z → WW p l e rmX0_placeOnListo s m args below meth c 5 D A (cW ad cB cI cZ) (QV below args s D (tyL cB cI cZ) (cW ad cB cI cZ) A post) z 24 [(0, .ref (ad 18)), (1, .int x1), (2, .int x2), (3, .int x3), (4, .int x4)] []) (x1 x2 x3 x4 : Int32) (z : Sg) (hp : pX0_placeOnListo_b24 K24 post x1 x2 x3 x4 z) : WW p l e rmX0_placeOnListo s m args below meth c 5 D A (cW ad cB cI cZ) (QV below args s D (tyL cB cI cZ) (cW ad cB cI cZ) A post) z 24 [(0, .ref (ad 18)), (1, .int x1), (2, .int x2), (3, .int x3), (4, .int x4)] [] := by
  unfold pX0_placeOnListo_b24 at hp
  refine ww_iload X dX0_placeOnList_24 4 rfl ?_
  refine ww_bipush X (v := 24) dX0_placeOnList_26 (by decide) ?_
  refine ww_icmp_ge X (tgt := 111) dX0_placeOnList_28 (by decide) (fun h1 => ?_) (fun h1 => ?_)
  · have hp := hp.1 h1
    refine ww_aload_n X dX0_placeOnList_111 0 rfl ?_
    refine ww_get X in_X0_placeOnList_X0 18 cg_18 rfl 3 (by decide) (X.wd 1 rfl) (v := .ref (ad 22)) rfl dX0_placeOnList_112 ?_
    refine ww_iload_n X dX0_placeOnList_115 1 rfl ?_
    refine ww_iconst X (v := 1) dX0_placeOnList_116 (by decide) ?_
    refine ww_iload_n X dX0_placeOnList_117 2 rfl ?_
    refine ww_iadd X dX0_placeOnList_118 ?_
    obtain ⟨h2, hp⟩ := hp
    refine ww_iast X 22 1 cg_22 rfl (sg' := (sA z 16 x1 (1 + x2))) h2 ca_22 dX0_placeOnList_119 ?_
    refine ww_iload_n X dX0_placeOnList_120 2 rfl ?_
    refine ww_iload_n X dX0_placeOnList_121 3 rfl ?_
    refine ww_iadd X dX0_placeOnList_122 ?_
    refine ww_top (fun v3 hv3 => ?_)
    have hp := hp v3 hv3
    refine ww_istore X (lv' := [(4, .int v3), (0, .ref (ad 18)), (1, .int x1), (2, .int x2), (3, .int x3)]) dX0_placeOnList_123 (by decide) rfl ?_
    refine ww_iload X dX0_placeOnList_125 0 rfl ?_
    refine ww_bipush X (v := 24) dX0_placeOnList_127 (by decide) ?_
    refine ww_icmp_ge X (tgt := 140) dX0_placeOnList_129 (by decide) (fun h4 => ?_) (fun h4 => ?_)
    · have hp := hp.1 h4
      exact ww_sub (lv' := [(0, .ref (ad 18))]) [1] rfl (wX0_placeOnListo_b140 X   (sA z 16 x1 (1 + x2)) hp)
    · have hp := hp.2 h4
      refine ww_aload_n X dX0_placeOnList_132 1 rfl ?_
      refine ww_get X in_X0_placeOnList_X0 18 cg_18 rfl 4 (by decide) (X.wd 5 rfl) (v := .ref (ad 23)) rfl dX0_placeOnList_133 ?_
      refine ww_iload X dX0_placeOnList_136 0 rfl ?_
      refine ww_iload_n X dX0_placeOnList_138 2 rfl ?_
      obtain ⟨h5, hp⟩ := hp
      refine ww_iast X 23 1 cg_23 rfl (sg' := (sA (sA z 16 x1 (1 + x2)) 17 v3 x1)) h5 ca_23 dX0_placeOnList_139 ?_
      exact ww_sub (lv' := [(0, .ref (ad 18))]) [1] rfl (wX0_placeOnListo_b140 X   (sA (sA z 16 x1 (1 + x2)) 17 v3 x1) hp)
  · have hp := hp.2 h1
    refine ww_aload_n X dX0_placeOnList_31 0 rfl ?_
    refine ww_get X in_X0_placeOnList_X0 18 cg_18 rfl 0 (by decide) (X.wd 2 rfl) (v := .ref (ad 19)) rfl dX0_placeOnList_32 ?_
    refine ww_iload X dX0_placeOnList_35 4 rfl ?_
    obtain ⟨h6, hp⟩ := hp
    refine ww_iald X 19 1 cg_19 rfl (v := (gA z 13 x4)) h6 rfl dX0_placeOnList_37 ?_
    refine ww_if_lt X (tgt := 105) dX0_placeOnList_38 (by decide) (fun h7 => ?_) (fun h7 => ?_)
    · have hp := hp.1 h7
      exact wX0_placeOnListo_b105 X hK24 x1 x2 x3 x4 z hp
    · have hp := hp.2 h7
      refine ww_iload_n X dX0_placeOnList_41 2 rfl ?_
      refine ww_aload_n X dX0_placeOnList_42 0 rfl ?_
      refine ww_iload X dX0_placeOnList_43 4 rfl ?_
      refine ww_iload_n X dX0_placeOnList_45 1 rfl ?_
      refine ww_callV_i X (As := [.int x4, .int x1]) (rest := [.int x2]) (kX0_isBettero l D ad cB cI cZ x4 x1 z _ hp) (cwV 2 X.hts gX0_placeOnList_X0_isBetter rfl rfl rfl hd_X0_isBetter ⟨Nat.le_of_ble_eq_true rfl, Nat.le_of_ble_eq_true rfl⟩) 18 0 cg_18 rfl rfl rfl rfl (Nat.le_of_ble_eq_true rfl) dX0_placeOnList_46 (fun r9 u8 hp => ?_)
      refine ww_if_eq X (tgt := 56) dX0_placeOnList_49 (by decide) (fun h10 => ?_) (fun h10 => ?_)
      · have hp := hp.1 h10
        refine ww_iconst X (v := 0) dX0_placeOnList_56 (by decide) ?_
        exact ww_sub (lv' := [(0, .ref (ad 18)), (1, .int x1), (3, .int x3), (4, .int x4)]) [0, 1, 3, 4] rfl (wX0_placeOnListo_b57 X hK24 x1 x3 x4 0 x2 u8 hp)
      · have hp := hp.2 h10
        refine ww_iconst X (v := 1) dX0_placeOnList_52 (by decide) ?_
        refine ww_goto X (tgt := 57) dX0_placeOnList_53 (by decide) ?_
        exact ww_sub (lv' := [(0, .ref (ad 18)), (1, .int x1), (3, .int x3), (4, .int x4)]) [0, 1, 3, 4] rfl (wX0_placeOnListo_b57 X hK24 x1 x3 x4 1 x2 u8 hp)
set_option maxHeartbeats 4000000 in
set_option maxRecDepth 100000 in
theorem wX0_placeOnListo_l24 {p : Program} {l : Launch} {e : Env} {s : State} {m : MethodId} {args : Array Value} {below : List Frame} {meth : Method} {c : Code} {D : va_G} {A : Nat → Prop} {ad : Nat → Nat} {cB cI cZ : ClassId} {post : Sg → Prop}  (X : Cx p s m args meth c cX0_placeOnList 5 none RX0 wsX0_placeOnList D (tyL cB cI cZ) A)  (x1 x2 x3 x4 : Int32) (z : Sg) (hp : pX0_placeOnListo_l24  post x1 x2 x3 x4 z) : WW p l e rmX0_placeOnListo s m args below meth c 5 D A (cW ad cB cI cZ) (QV below args s D (tyL cB cI cZ) (cW ad cB cI cZ) A post) z 24 [(0, .ref (ad 18)), (1, .int x1), (2, .int x2), (3, .int x3), (4, .int x4)] [] := by
  have key := lp_walk (F := (fun (K : Int32 × Int32 × Int32 × Int32 → Sg → Prop) (a : Int32 × Int32 × Int32 × Int32) (z : Sg) => pX0_placeOnListo_b24 (fun (x1 x2 x3 x4 : Int32) z => K (x1, x2, x3, x4) z) post a.1 a.2.1 a.2.2.1 a.2.2.2 z)) (P := fun a z => WW p l e rmX0_placeOnListo s m args below meth c 5 D A (cW ad cB cI cZ) (QV below args s D (tyL cB cI cZ) (cW ad cB cI cZ) A post) z 24 [(0, .ref (ad 18)), (1, .int a.1), (2, .int a.2.1), (3, .int a.2.2.1), (4, .int a.2.2.2)] []) (fun K hK a z hp => wX0_placeOnListo_b24 X (fun x1 x2 x3 x4 z h => hK (x1, x2, x3, x4) z h) a.1 a.2.1 a.2.2.1 a.2.2.2 z hp)
  exact key (x1, x2, x3, x4) z hp
set_option maxHeartbeats 4000000 in
set_option maxRecDepth 100000 in
theorem kX0_placeOnListo (l : Launch) (D : va_G) (ad : Nat → Nat) (cB cI cZ : ClassId) (a1 : Int32) (z : Sg) (post : Sg → Prop) (hp : pX0_placeOnListo a1 z post) : Cv l D (tyL cB cI cZ) (cW ad cB cI cZ) yX0_placeOnList wsX0_placeOnList rmX0_placeOnListo [.ref (ad 18), .int a1] z post := by
  refine Cv.of (cc := cX0_placeOnList) (maxL := 5) (ret := none) (by decide) rfl (Nat.le_of_ble_eq_true rfl) ?_
  intro p e s m args below meth c A X
  have X : Cx p s m args meth c cX0_placeOnList 5 none RX0 wsX0_placeOnList D (tyL cB cI cZ) A := X
  show WW p l e rmX0_placeOnListo s m args below meth c 5 D A (cW ad cB cI cZ) (QV below args s D (tyL cB cI cZ) (cW ad cB cI cZ) A post) z 0 [(0, .ref (ad 18)), (1, .int a1)] []
  unfold pX0_placeOnListo at hp
  refine ww_aload_n X dX0_placeOnList_0 0 rfl ?_
  refine ww_get X in_X0_placeOnList_X0 18 cg_18 rfl 3 (by decide) (X.wd 1 rfl) (v := .ref (ad 22)) rfl dX0_placeOnList_1 ?_
  refine ww_iload_n X dX0_placeOnList_4 1 rfl ?_
  refine ww_iconst X (v := 0) dX0_placeOnList_5 (by decide) ?_
  obtain ⟨h1, hp⟩ := hp
  refine ww_iast X 22 1 cg_22 rfl (sg' := (sA z 16 a1 0)) h1 ca_22 dX0_placeOnList_6 ?_
  refine ww_aload_n X dX0_placeOnList_7 0 rfl ?_
  refine ww_get X in_X0_placeOnList_X0 18 cg_18 rfl 0 (by decide) (X.wd 2 rfl) (v := .ref (ad 19)) rfl dX0_placeOnList_8 ?_
  refine ww_iload_n X dX0_placeOnList_11 1 rfl ?_
  obtain ⟨h2, hp⟩ := hp
  refine ww_iald X 19 1 cg_19 rfl (v := (gA z 13 a1)) h2 rfl dX0_placeOnList_12 ?_
  refine ww_if_ge X (tgt := 17) dX0_placeOnList_13 (by decide) (fun h3 => ?_) (fun h3 => ?_)
  · have hp := hp.1 h3
    refine ww_iconst X (v := 0) dX0_placeOnList_17 (by decide) ?_
    refine ww_istore_n X (lv' := [(2, .int 0), (0, .ref (ad 18)), (1, .int a1)]) dX0_placeOnList_18 (by decide) rfl ?_
    refine ww_iconst X (v := 0) dX0_placeOnList_19 (by decide) ?_
    refine ww_istore_n X (lv' := [(3, .int 0), (2, .int 0), (0, .ref (ad 18)), (1, .int a1)]) dX0_placeOnList_20 (by decide) rfl ?_
    refine ww_iconst X (v := 0) dX0_placeOnList_21 (by decide) ?_
    refine ww_istore X (lv' := [(4, .int 0), (3, .int 0), (2, .int 0), (0, .ref (ad 18)), (1, .int a1)]) dX0_placeOnList_22 (by decide) rfl ?_
    exact ww_sub (lv' := [(0, .ref (ad 18)), (1, .int a1), (2, .int 0), (3, .int 0), (4, .int 0)]) [3, 4, 2, 1, 0] rfl (wX0_placeOnListo_l24 X  a1 0 0 0 (sA z 16 a1 0) hp)
  · have hp := hp.2 h3
    exact ww_vret X hp dX0_placeOnList_16
set_option maxHeartbeats 4000000 in
set_option maxRecDepth 100000 in
theorem wX0_drawo_b235 {p : Program} {l : Launch} {e : Env} {s : State} {m : MethodId} {args : Array Value} {below : List Frame} {meth : Method} {c : Code} {D : va_G} {A : Nat → Prop} {ad : Nat → Nat} {cB cI cZ : ClassId} {post : Sg → Prop} {K235 : Int32 → Sg → Prop} (X : Cx p s m args meth c cX0_draw 6 none RX0 wsX0_draw D (tyL cB cI cZ) A) (hK235 : ∀ (x4 : Int32) (z : Sg), K235 x4 z → WW p l e rmX0_drawo s m args below meth c 6 D A (cW ad cB cI cZ) (QV below args s D (tyL cB cI cZ) (cW ad cB cI cZ) A post) z 235 [(0, .ref (ad 18)), (1, .ref (ad 2)), (4, .int x4)] []) (x4 : Int32) (z : Sg) (hp : pX0_drawo_b235 K235 post x4 z) : WW p l e rmX0_drawo s m args below meth c 6 D A (cW ad cB cI cZ) (QV below args s D (tyL cB cI cZ) (cW ad cB cI cZ) A post) z 235 [(0, .ref (ad 18)), (1, .ref (ad 2)), (4, .int x4)] [] := by
  unfold pX0_drawo_b235 at hp
  refine ww_iload X dX0_draw_235 2 rfl ?_
  refine ww_bipush X (v := 24) dX0_draw_237 (by decide) ?_
  refine ww_icmp_ge X (tgt := 254) dX0_draw_239 (by decide) (fun h1 => ?_) (fun h1 => ?_)
  · have hp := hp.1 h1
    exact ww_vret X hp dX0_draw_254
  · have hp := hp.2 h1
    refine ww_aload_n X dX0_draw_242 0 rfl ?_
    refine ww_iload X dX0_draw_243 2 rfl ?_
    refine ww_callV_v X (As := [.int x4]) (rest := []) (kX0_placeOnListo l D ad cB cI cZ x4 z _ hp) (cwV 1 X.hts gX0_draw_X0_placeOnList rfl rfl rfl hd_X0_placeOnList ⟨Nat.le_of_ble_eq_true rfl, Nat.le_of_ble_eq_true rfl⟩) 18 0 cg_18 rfl rfl rfl rfl (Nat.le_of_ble_eq_true rfl) dX0_draw_245 (fun u2 hp => ?_)
    refine ww_iinc X (v := (x4 + 1)) (lv' := [(4, .int (x4 + 1)), (0, .ref (ad 18)), (1, .ref (ad 2))]) dX0_draw_248 2 rfl rfl (by decide) rfl ?_
    refine ww_goto X (tgt := 235) dX0_draw_251 (by decide) ?_
    exact ww_sub (lv' := [(0, .ref (ad 18)), (1, .ref (ad 2)), (4, .int (x4 + 1))]) [1, 2, 0] rfl (hK235 (x4 + 1) u2 hp)
set_option maxHeartbeats 4000000 in
set_option maxRecDepth 100000 in
theorem wX0_drawo_l235 {p : Program} {l : Launch} {e : Env} {s : State} {m : MethodId} {args : Array Value} {below : List Frame} {meth : Method} {c : Code} {D : va_G} {A : Nat → Prop} {ad : Nat → Nat} {cB cI cZ : ClassId} {post : Sg → Prop}  (X : Cx p s m args meth c cX0_draw 6 none RX0 wsX0_draw D (tyL cB cI cZ) A)  (x4 : Int32) (z : Sg) (hp : pX0_drawo_l235  post x4 z) : WW p l e rmX0_drawo s m args below meth c 6 D A (cW ad cB cI cZ) (QV below args s D (tyL cB cI cZ) (cW ad cB cI cZ) A post) z 235 [(0, .ref (ad 18)), (1, .ref (ad 2)), (4, .int x4)] [] := by
  have key := lp_walk (F := (fun (K : Int32 → Sg → Prop) (a : Int32) (z : Sg) => pX0_drawo_b235 (fun (x4 : Int32) z => K x4 z) post a z)) (P := fun a z => WW p l e rmX0_drawo s m args below meth c 6 D A (cW ad cB cI cZ) (QV below args s D (tyL cB cI cZ) (cW ad cB cI cZ) A post) z 235 [(0, .ref (ad 18)), (1, .ref (ad 2)), (4, .int a)] []) (fun K hK a z hp => wX0_drawo_b235 X (fun x4 z h => hK x4 z h) a z hp)
  exact key x4 z hp
set_option maxHeartbeats 4000000 in
set_option maxRecDepth 100000 in
theorem wX0_drawo_b224 {p : Program} {l : Launch} {e : Env} {s : State} {m : MethodId} {args : Array Value} {below : List Frame} {meth : Method} {c : Code} {D : va_G} {A : Nat → Prop} {ad : Nat → Nat} {cB cI cZ : ClassId} {post : Sg → Prop} {K95 : Int32 → Sg → Prop} (X : Cx p s m args meth c cX0_draw 6 none RX0 wsX0_draw D (tyL cB cI cZ) A) (hK95 : ∀ (x4 : Int32) (z : Sg), K95 x4 z → WW p l e rmX0_drawo s m args below meth c 6 D A (cW ad cB cI cZ) (QV below args s D (tyL cB cI cZ) (cW ad cB cI cZ) A post) z 95 [(0, .ref (ad 18)), (1, .ref (ad 2)), (4, .int x4)] []) (x4 y0 y1 y2 : Int32) (z : Sg) (hp : pX0_drawo_b224 K95 post x4 y0 y1 y2 z) : WW p l e rmX0_drawo s m args below meth c 6 D A (cW ad cB cI cZ) (QV below args s D (tyL cB cI cZ) (cW ad cB cI cZ) A post) z 224 [(0, .ref (ad 18)), (1, .ref (ad 2)), (4, .int x4)] [.int y0, .int y1, .int y2, .ref (ad 21)] := by
  unfold pX0_drawo_b224 at hp
  refine ww_iadd X dX0_draw_224 ?_
  obtain ⟨h1, hp⟩ := hp
  refine ww_iast X 21 1 cg_21 rfl (sg' := (sA z 15 y2 (y1 + y0))) h1 ca_21 dX0_draw_225 ?_
  refine ww_iinc X (v := (x4 + 1)) (lv' := [(4, .int (x4 + 1)), (0, .ref (ad 18)), (1, .ref (ad 2))]) dX0_draw_226 2 rfl rfl (by decide) rfl ?_
  refine ww_goto X (tgt := 95) dX0_draw_229 (by decide) ?_
  exact ww_sub (lv' := [(0, .ref (ad 18)), (1, .ref (ad 2)), (4, .int (x4 + 1))]) [1, 2, 0] rfl (hK95 (x4 + 1) (sA z 15 y2 (y1 + y0)) hp)
set_option maxHeartbeats 4000000 in
set_option maxRecDepth 100000 in
theorem wX0_drawo_b196 {p : Program} {l : Launch} {e : Env} {s : State} {m : MethodId} {args : Array Value} {below : List Frame} {meth : Method} {c : Code} {D : va_G} {A : Nat → Prop} {ad : Nat → Nat} {cB cI cZ : ClassId} {post : Sg → Prop} {K95 : Int32 → Sg → Prop} (X : Cx p s m args meth c cX0_draw 6 none RX0 wsX0_draw D (tyL cB cI cZ) A) (hK95 : ∀ (x4 : Int32) (z : Sg), K95 x4 z → WW p l e rmX0_drawo s m args below meth c 6 D A (cW ad cB cI cZ) (QV below args s D (tyL cB cI cZ) (cW ad cB cI cZ) A post) z 95 [(0, .ref (ad 18)), (1, .ref (ad 2)), (4, .int x4)] []) (x4 y0 : Int32) (z : Sg) (hp : pX0_drawo_b196 K95 post x4 y0 z) : WW p l e rmX0_drawo s m args below meth c 6 D A (cW ad cB cI cZ) (QV below args s D (tyL cB cI cZ) (cW ad cB cI cZ) A post) z 196 [(0, .ref (ad 18)), (1, .ref (ad 2)), (4, .int x4)] [.int y0] := by
  unfold pX0_drawo_b196 at hp
  refine ww_istore X (lv' := [(5, .int y0), (0, .ref (ad 18)), (1, .ref (ad 2)), (4, .int x4)]) dX0_draw_196 (by decide) rfl ?_
  refine ww_aload_n X dX0_draw_198 1 rfl ?_
  refine ww_get X in_X0_draw_X0 18 cg_18 rfl 2 (by decide) (X.wd 5 rfl) (v := .ref (ad 21)) rfl dX0_draw_199 ?_
  refine ww_iload X dX0_draw_202 3 rfl ?_
  refine ww_aload_n X dX0_draw_204 1 rfl ?_
  refine ww_get X in_X0_draw_X0 18 cg_18 rfl 0 (by decide) (X.wd 3 rfl) (v := .ref (ad 19)) rfl dX0_draw_205 ?_
  refine ww_iload X dX0_draw_208 3 rfl ?_
  obtain ⟨h1, hp⟩ := hp
  refine ww_iald X 19 1 cg_19 rfl (v := (gA z 13 x4)) h1 rfl dX0_draw_210 ?_
  refine ww_iload X dX0_draw_211 0 rfl ?_
  refine ww_if_eq X (tgt := 223) dX0_draw_213 (by decide) (fun h2 => ?_) (fun h2 => ?_)
  · have hp := hp.1 h2
    refine ww_iconst X (v := 0) dX0_draw_223 (by decide) ?_
    exact ww_sub (lv' := [(0, .ref (ad 18)), (1, .ref (ad 2)), (4, .int x4)]) [1, 2, 3] rfl (wX0_drawo_b224 X hK95 x4 0 (gA z 13 x4) x4 z hp)
  · have hp := hp.2 h2
    refine ww_aload_n X dX0_draw_216 2 rfl ?_
    refine ww_callN_i X (As := []) (rest := [.int (gA z 13 x4), .int x4, .ref (ad 21)]) (kX3_sum l D ad cB cI cZ  z _ hp) (⟨va_cnB 0 X.hts gX0_draw_X3_sum_n45 rfl rfl rfl (X.hE.2 _ (List.mem_of_getElem? (i := 39) rfl)) (X.wd 7 rfl) hn_X3_sum ⟨Nat.le_of_ble_eq_true rfl, Nat.le_of_ble_eq_true rfl⟩, (X.wd 77 rfl), (X.wd 78 rfl)⟩) 2 3 cg_2 rfl rfl rfl rfl (Nat.le_of_ble_eq_true rfl) dX0_draw_217 (fun r4 u3 hp => ?_)
    refine ww_goto X (tgt := 224) dX0_draw_220 (by decide) ?_
    exact ww_sub (lv' := [(0, .ref (ad 18)), (1, .ref (ad 2)), (4, .int x4)]) [1, 2, 3] rfl (wX0_drawo_b224 X hK95 x4 r4 (gA z 13 x4) x4 u3 hp)
set_option maxHeartbeats 4000000 in
set_option maxRecDepth 100000 in
theorem wX0_drawo_b195 {p : Program} {l : Launch} {e : Env} {s : State} {m : MethodId} {args : Array Value} {below : List Frame} {meth : Method} {c : Code} {D : va_G} {A : Nat → Prop} {ad : Nat → Nat} {cB cI cZ : ClassId} {post : Sg → Prop} {K95 : Int32 → Sg → Prop} (X : Cx p s m args meth c cX0_draw 6 none RX0 wsX0_draw D (tyL cB cI cZ) A) (hK95 : ∀ (x4 : Int32) (z : Sg), K95 x4 z → WW p l e rmX0_drawo s m args below meth c 6 D A (cW ad cB cI cZ) (QV below args s D (tyL cB cI cZ) (cW ad cB cI cZ) A post) z 95 [(0, .ref (ad 18)), (1, .ref (ad 2)), (4, .int x4)] []) (x4 : Int32) (z : Sg) (hp : pX0_drawo_b195 K95 post x4 z) : WW p l e rmX0_drawo s m args below meth c 6 D A (cW ad cB cI cZ) (QV below args s D (tyL cB cI cZ) (cW ad cB cI cZ) A post) z 195 [(0, .ref (ad 18)), (1, .ref (ad 2)), (4, .int x4)] [] := by
  unfold pX0_drawo_b195 at hp
  refine ww_iconst X (v := 0) dX0_draw_195 (by decide) ?_
  exact wX0_drawo_b196 X hK95 x4 0 z hp
set_option maxHeartbeats 4000000 in
set_option maxRecDepth 100000 in
theorem wX0_drawo_b165 {p : Program} {l : Launch} {e : Env} {s : State} {m : MethodId} {args : Array Value} {below : List Frame} {meth : Method} {c : Code} {D : va_G} {A : Nat → Prop} {ad : Nat → Nat} {cB cI cZ : ClassId} {post : Sg → Prop} {K95 : Int32 → Sg → Prop} (X : Cx p s m args meth c cX0_draw 6 none RX0 wsX0_draw D (tyL cB cI cZ) A) (hK95 : ∀ (x4 : Int32) (z : Sg), K95 x4 z → WW p l e rmX0_drawo s m args below meth c 6 D A (cW ad cB cI cZ) (QV below args s D (tyL cB cI cZ) (cW ad cB cI cZ) A post) z 95 [(0, .ref (ad 18)), (1, .ref (ad 2)), (4, .int x4)] []) (x4 y0 y1 : Int32) (z : Sg) (hp : pX0_drawo_b165 K95 post x4 y0 y1 z) : WW p l e rmX0_drawo s m args below meth c 6 D A (cW ad cB cI cZ) (QV below args s D (tyL cB cI cZ) (cW ad cB cI cZ) A post) z 165 [(0, .ref (ad 18)), (1, .ref (ad 2)), (4, .int x4)] [.int y0, .int y1, .ref (ad 18)] := by
  unfold pX0_drawo_b165 at hp
  refine ww_iadd X dX0_draw_165 ?_
  refine ww_put X in_X0_draw_X0 tyX0 tyX0_ok nmX0 18 cg_18 rfl 6 (by decide) (X.wd 2 rfl) rfl pd_X0_6 (Nat.le_of_ble_eq_true rfl) (sg' := (sS z 15 (y1 + y0))) cs_15 dX0_draw_166 ?_
  refine ww_aload_n X dX0_draw_169 0 rfl ?_
  refine ww_get X in_X0_draw_X0 18 cg_18 rfl 1 (by decide) (X.wd 4 rfl) (v := .ref (ad 20)) rfl dX0_draw_170 ?_
  refine ww_iload X dX0_draw_173 2 rfl ?_
  obtain ⟨h1, hp⟩ := hp
  refine ww_zald X 20 2 cg_20 rfl (v := (gA z 14 x4)) h1 rfl dX0_draw_175 ?_
  refine ww_if_eq X (tgt := 195) dX0_draw_176 (by decide) (fun h2 => ?_) (fun h2 => ?_)
  · have hp := hp.1 h2
    exact wX0_drawo_b195 X hK95 x4 (sS z 15 (y1 + y0)) hp
  · have hp := hp.2 h2
    refine ww_aload_n X dX0_draw_179 1 rfl ?_
    refine ww_bipush X (v := 24) dX0_draw_180 (by decide) ?_
    refine ww_iload X dX0_draw_182 2 rfl ?_
    refine ww_iadd X dX0_draw_184 ?_
    refine ww_callN_i X (As := [.int (24 + x4)]) (rest := []) (kX3_measure l D ad cB cI cZ (24 + x4) (sS z 15 (y1 + y0)) _ hp) (⟨va_cnB 1 X.hts gX0_draw_X3_measure_n41 rfl rfl rfl (X.hE.2 _ (List.mem_of_getElem? (i := 38) rfl)) (X.wd 7 rfl) hn_X3_measure ⟨Nat.le_of_ble_eq_true rfl, Nat.le_of_ble_eq_true rfl⟩, (X.wd 16 rfl), (X.wd 17 rfl)⟩) 2 3 cg_2 rfl rfl rfl rfl (Nat.le_of_ble_eq_true rfl) dX0_draw_185 (fun r4 u3 hp => ?_)
    refine ww_if_eq X (tgt := 195) dX0_draw_188 (by decide) (fun h5 => ?_) (fun h5 => ?_)
    · have hp := hp.1 h5
      exact wX0_drawo_b195 X hK95 x4 u3 hp
    · have hp := hp.2 h5
      refine ww_iconst X (v := 1) dX0_draw_191 (by decide) ?_
      refine ww_goto X (tgt := 196) dX0_draw_192 (by decide) ?_
      exact wX0_drawo_b196 X hK95 x4 1 u3 hp
set_option maxHeartbeats 4000000 in
set_option maxRecDepth 100000 in
theorem wX0_drawo_b144 {p : Program} {l : Launch} {e : Env} {s : State} {m : MethodId} {args : Array Value} {below : List Frame} {meth : Method} {c : Code} {D : va_G} {A : Nat → Prop} {ad : Nat → Nat} {cB cI cZ : ClassId} {post : Sg → Prop} {K95 : Int32 → Sg → Prop} (X : Cx p s m args meth c cX0_draw 6 none RX0 wsX0_draw D (tyL cB cI cZ) A) (hK95 : ∀ (x4 : Int32) (z : Sg), K95 x4 z → WW p l e rmX0_drawo s m args below meth c 6 D A (cW ad cB cI cZ) (QV below args s D (tyL cB cI cZ) (cW ad cB cI cZ) A post) z 95 [(0, .ref (ad 18)), (1, .ref (ad 2)), (4, .int x4)] []) (x4 y0 y1 : Int32) (z : Sg) (hp : pX0_drawo_b144 K95 post x4 y0 y1 z) : WW p l e rmX0_drawo s m args below meth c 6 D A (cW ad cB cI cZ) (QV below args s D (tyL cB cI cZ) (cW ad cB cI cZ) A post) z 144 [(0, .ref (ad 18)), (1, .ref (ad 2)), (4, .int x4)] [.int y0, .int y1, .ref (ad 20)] := by
  unfold pX0_drawo_b144 at hp
  obtain ⟨h1, hp⟩ := hp
  refine ww_zast X 20 2 cg_20 rfl (sg' := (sA z 14 y1 (vp_nar .boolean y0))) h1 ca_20 dX0_draw_144 ?_
  refine ww_aload_n X dX0_draw_145 0 rfl ?_
  refine ww_dup X dX0_draw_146 rfl ?_
  refine ww_get X in_X0_draw_X0 18 cg_18 rfl 6 (by decide) (X.wd 2 rfl) (v := .int (z.1 15)) rfl dX0_draw_147 ?_
  refine ww_aload_n X dX0_draw_150 0 rfl ?_
  refine ww_get X in_X0_draw_X0 18 cg_18 rfl 1 (by decide) (X.wd 4 rfl) (v := .ref (ad 20)) rfl dX0_draw_151 ?_
  refine ww_iload X dX0_draw_154 2 rfl ?_
  obtain ⟨h2, hp⟩ := hp
  refine ww_zald X 20 2 cg_20 rfl (v := (gA (sA z 14 y1 (vp_nar .boolean y0)) 14 x4)) h2 rfl dX0_draw_156 ?_
  refine ww_if_eq X (tgt := 164) dX0_draw_157 (by decide) (fun h3 => ?_) (fun h3 => ?_)
  · have hp := hp.1 h3
    refine ww_iconst X (v := 0) dX0_draw_164 (by decide) ?_
    exact wX0_drawo_b165 X hK95 x4 0 (z.1 15) (sA z 14 y1 (vp_nar .boolean y0)) hp
  · have hp := hp.2 h3
    refine ww_iconst X (v := 1) dX0_draw_160 (by decide) ?_
    refine ww_goto X (tgt := 165) dX0_draw_161 (by decide) ?_
    exact wX0_drawo_b165 X hK95 x4 1 (z.1 15) (sA z 14 y1 (vp_nar .boolean y0)) hp
set_option maxHeartbeats 4000000 in
set_option maxRecDepth 100000 in
theorem wX0_drawo_b143 {p : Program} {l : Launch} {e : Env} {s : State} {m : MethodId} {args : Array Value} {below : List Frame} {meth : Method} {c : Code} {D : va_G} {A : Nat → Prop} {ad : Nat → Nat} {cB cI cZ : ClassId} {post : Sg → Prop} {K95 : Int32 → Sg → Prop} (X : Cx p s m args meth c cX0_draw 6 none RX0 wsX0_draw D (tyL cB cI cZ) A) (hK95 : ∀ (x4 : Int32) (z : Sg), K95 x4 z → WW p l e rmX0_drawo s m args below meth c 6 D A (cW ad cB cI cZ) (QV below args s D (tyL cB cI cZ) (cW ad cB cI cZ) A post) z 95 [(0, .ref (ad 18)), (1, .ref (ad 2)), (4, .int x4)] []) (x4 y0 : Int32) (z : Sg) (hp : pX0_drawo_b143 K95 post x4 y0 z) : WW p l e rmX0_drawo s m args below meth c 6 D A (cW ad cB cI cZ) (QV below args s D (tyL cB cI cZ) (cW ad cB cI cZ) A post) z 143 [(0, .ref (ad 18)), (1, .ref (ad 2)), (4, .int x4)] [.int y0, .ref (ad 20)] := by
  unfold pX0_drawo_b143 at hp
  refine ww_iconst X (v := 0) dX0_draw_143 (by decide) ?_
  exact wX0_drawo_b144 X hK95 x4 0 y0 z hp
set_option maxHeartbeats 4000000 in
set_option maxRecDepth 100000 in
theorem wX0_drawo_b95 {p : Program} {l : Launch} {e : Env} {s : State} {m : MethodId} {args : Array Value} {below : List Frame} {meth : Method} {c : Code} {D : va_G} {A : Nat → Prop} {ad : Nat → Nat} {cB cI cZ : ClassId} {post : Sg → Prop} {K95 : Int32 → Sg → Prop} (X : Cx p s m args meth c cX0_draw 6 none RX0 wsX0_draw D (tyL cB cI cZ) A) (hK95 : ∀ (x4 : Int32) (z : Sg), K95 x4 z → WW p l e rmX0_drawo s m args below meth c 6 D A (cW ad cB cI cZ) (QV below args s D (tyL cB cI cZ) (cW ad cB cI cZ) A post) z 95 [(0, .ref (ad 18)), (1, .ref (ad 2)), (4, .int x4)] []) (x4 : Int32) (z : Sg) (hp : pX0_drawo_b95 K95 post x4 z) : WW p l e rmX0_drawo s m args below meth c 6 D A (cW ad cB cI cZ) (QV below args s D (tyL cB cI cZ) (cW ad cB cI cZ) A post) z 95 [(0, .ref (ad 18)), (1, .ref (ad 2)), (4, .int x4)] [] := by
  unfold pX0_drawo_b95 at hp
  refine ww_iload X dX0_draw_95 2 rfl ?_
  refine ww_bipush X (v := 24) dX0_draw_97 (by decide) ?_
  refine ww_icmp_ge X (tgt := 232) dX0_draw_99 (by decide) (fun h1 => ?_) (fun h1 => ?_)
  · have hp := hp.1 h1
    refine ww_iconst X (v := 0) dX0_draw_232 (by decide) ?_
    refine ww_istore X (lv' := [(4, .int 0), (0, .ref (ad 18)), (1, .ref (ad 2))]) dX0_draw_233 (by decide) rfl ?_
    exact ww_sub (lv' := [(0, .ref (ad 18)), (1, .ref (ad 2)), (4, .int 0)]) [1, 2, 0] rfl (wX0_drawo_l235 X  0 z hp)
  · have hp := hp.2 h1
    refine ww_aload_n X dX0_draw_102 0 rfl ?_
    refine ww_get X in_X0_draw_X0 18 cg_18 rfl 1 (by decide) (X.wd 4 rfl) (v := .ref (ad 20)) rfl dX0_draw_103 ?_
    refine ww_iload X dX0_draw_106 2 rfl ?_
    refine ww_aload_n X dX0_draw_108 0 rfl ?_
    refine ww_get X in_X0_draw_X0 18 cg_18 rfl 0 (by decide) (X.wd 3 rfl) (v := .ref (ad 19)) rfl dX0_draw_109 ?_
    refine ww_iload X dX0_draw_112 2 rfl ?_
    obtain ⟨h2, hp⟩ := hp
    refine ww_iald X 19 1 cg_19 rfl (v := (gA z 13 x4)) h2 rfl dX0_draw_114 ?_
    refine ww_if_lt X (tgt := 143) dX0_draw_115 (by decide) (fun h3 => ?_) (fun h3 => ?_)
    · have hp := hp.1 h3
      exact wX0_drawo_b143 X hK95 x4 x4 z hp
    · have hp := hp.2 h3
      refine ww_aload_n X dX0_draw_118 0 rfl ?_
      refine ww_iload X dX0_draw_119 2 rfl ?_
      refine ww_aload_n X dX0_draw_121 1 rfl ?_
      refine ww_getN X in_X0_draw_X3 2 cg_2 rfl 0 (by decide) (X.nest 12 rfl) (v := .ref (ad 3)) rfl dX0_draw_122 ?_
      refine ww_callV_i X (As := [.int x4, .ref (ad 3)]) (rest := [.int x4, .ref (ad 20)]) (kX0_aheadInRoundZeroo l D ad cB cI cZ x4 z _ hp) (cwV 2 X.hts gX0_draw_X0_aheadInRoundZero rfl rfl rfl hd_X0_aheadInRoundZero ⟨Nat.le_of_ble_eq_true rfl, Nat.le_of_ble_eq_true rfl⟩) 18 0 cg_18 rfl rfl rfl rfl (Nat.le_of_ble_eq_true rfl) dX0_draw_125 (fun r5 u4 hp => ?_)
      refine ww_aload_n X dX0_draw_128 1 rfl ?_
      refine ww_getN X in_X0_draw_X3 2 cg_2 rfl 0 (by decide) (X.nest 12 rfl) (v := .ref (ad 3)) rfl dX0_draw_129 ?_
      refine ww_iconst X (v := 5) dX0_draw_132 (by decide) ?_
      refine ww_callN_i X (As := [.int 5]) (rest := [.int r5, .int x4, .ref (ad 20)]) (kX2_number l D ad cB cI cZ 5 u4 _ hp) (⟨va_cnB 1 X.hts gX0_draw_X2_number_n59 rfl rfl rfl (X.hE.2 _ (List.mem_of_getElem? (i := 40) rfl)) (X.wd 55 rfl) hn_X2_number ⟨Nat.le_of_ble_eq_true rfl, Nat.le_of_ble_eq_true rfl⟩, (X.wd 54 rfl), (X.wd 56 rfl)⟩) 3 2 cg_3 rfl rfl rfl rfl (Nat.le_of_ble_eq_true rfl) dX0_draw_133 (fun r7 u6 hp => ?_)
      refine ww_icmp_ge X (tgt := 143) dX0_draw_136 (by decide) (fun h8 => ?_) (fun h8 => ?_)
      · have hp := hp.1 h8
        exact wX0_drawo_b143 X hK95 x4 x4 u6 hp
      · have hp := hp.2 h8
        refine ww_iconst X (v := 1) dX0_draw_139 (by decide) ?_
        refine ww_goto X (tgt := 144) dX0_draw_140 (by decide) ?_
        exact wX0_drawo_b144 X hK95 x4 1 x4 u6 hp
set_option maxHeartbeats 4000000 in
set_option maxRecDepth 100000 in
theorem wX0_drawo_l95 {p : Program} {l : Launch} {e : Env} {s : State} {m : MethodId} {args : Array Value} {below : List Frame} {meth : Method} {c : Code} {D : va_G} {A : Nat → Prop} {ad : Nat → Nat} {cB cI cZ : ClassId} {post : Sg → Prop}  (X : Cx p s m args meth c cX0_draw 6 none RX0 wsX0_draw D (tyL cB cI cZ) A)  (x4 : Int32) (z : Sg) (hp : pX0_drawo_l95  post x4 z) : WW p l e rmX0_drawo s m args below meth c 6 D A (cW ad cB cI cZ) (QV below args s D (tyL cB cI cZ) (cW ad cB cI cZ) A post) z 95 [(0, .ref (ad 18)), (1, .ref (ad 2)), (4, .int x4)] [] := by
  have key := lp_walk (F := (fun (K : Int32 → Sg → Prop) (a : Int32) (z : Sg) => pX0_drawo_b95 (fun (x4 : Int32) z => K x4 z) post a z)) (P := fun a z => WW p l e rmX0_drawo s m args below meth c 6 D A (cW ad cB cI cZ) (QV below args s D (tyL cB cI cZ) (cW ad cB cI cZ) A post) z 95 [(0, .ref (ad 18)), (1, .ref (ad 2)), (4, .int a)] []) (fun K hK a z hp => wX0_drawo_b95 X (fun x4 z h => hK x4 z h) a z hp)
  exact key x4 z hp
set_option maxHeartbeats 4000000 in
set_option maxRecDepth 100000 in
theorem wX0_drawo_b82 {p : Program} {l : Launch} {e : Env} {s : State} {m : MethodId} {args : Array Value} {below : List Frame} {meth : Method} {c : Code} {D : va_G} {A : Nat → Prop} {ad : Nat → Nat} {cB cI cZ : ClassId} {post : Sg → Prop} {K18 : Int32 → Int32 → Sg → Prop} (X : Cx p s m args meth c cX0_draw 6 none RX0 wsX0_draw D (tyL cB cI cZ) A) (hK18 : ∀ (x3 x4 : Int32) (z : Sg), K18 x3 x4 z → WW p l e rmX0_drawo s m args below meth c 6 D A (cW ad cB cI cZ) (QV below args s D (tyL cB cI cZ) (cW ad cB cI cZ) A post) z 18 [(0, .ref (ad 18)), (1, .ref (ad 2)), (3, .int x3), (4, .int x4)] []) (x3 x4 y0 y1 : Int32) (z : Sg) (hp : pX0_drawo_b82 K18 post x3 x4 y0 y1 z) : WW p l e rmX0_drawo s m args below meth c 6 D A (cW ad cB cI cZ) (QV below args s D (tyL cB cI cZ) (cW ad cB cI cZ) A post) z 82 [(0, .ref (ad 18)), (1, .ref (ad 2)), (3, .int x3), (4, .int x4)] [.int y0, .int y1, .ref (ad 18)] := by
  unfold pX0_drawo_b82 at hp
  refine ww_iadd X dX0_draw_82 ?_
  refine ww_put X in_X0_draw_X0 tyX0 tyX0_ok nmX0 18 cg_18 rfl 5 (by decide) (X.wd 1 rfl) rfl pd_X0_5 (Nat.le_of_ble_eq_true rfl) (sg' := (sS z 14 (y1 + y0))) cs_14 dX0_draw_83 ?_
  refine ww_iinc X (v := (x4 + 1)) (lv' := [(4, .int (x4 + 1)), (0, .ref (ad 18)), (1, .ref (ad 2)), (3, .int x3)]) dX0_draw_86 3 rfl rfl (by decide) rfl ?_
  refine ww_goto X (tgt := 18) dX0_draw_89 (by decide) ?_
  exact ww_sub (lv' := [(0, .ref (ad 18)), (1, .ref (ad 2)), (3, .int x3), (4, .int (x4 + 1))]) [1, 2, 3, 0] rfl (hK18 x3 (x4 + 1) (sS z 14 (y1 + y0)) hp)
set_option maxHeartbeats 4000000 in
set_option maxRecDepth 100000 in
theorem wX0_drawo_b66 {p : Program} {l : Launch} {e : Env} {s : State} {m : MethodId} {args : Array Value} {below : List Frame} {meth : Method} {c : Code} {D : va_G} {A : Nat → Prop} {ad : Nat → Nat} {cB cI cZ : ClassId} {post : Sg → Prop} {K18 : Int32 → Int32 → Sg → Prop} (X : Cx p s m args meth c cX0_draw 6 none RX0 wsX0_draw D (tyL cB cI cZ) A) (hK18 : ∀ (x3 x4 : Int32) (z : Sg), K18 x3 x4 z → WW p l e rmX0_drawo s m args below meth c 6 D A (cW ad cB cI cZ) (QV below args s D (tyL cB cI cZ) (cW ad cB cI cZ) A post) z 18 [(0, .ref (ad 18)), (1, .ref (ad 2)), (3, .int x3), (4, .int x4)] []) (x3 x4 x5 y0 y1 : Int32) (z : Sg) (hp : pX0_drawo_b66 K18 post x3 x4 x5 y0 y1 z) : WW p l e rmX0_drawo s m args below meth c 6 D A (cW ad cB cI cZ) (QV below args s D (tyL cB cI cZ) (cW ad cB cI cZ) A post) z 66 [(0, .ref (ad 18)), (1, .ref (ad 2)), (3, .int x3), (4, .int x4), (5, .int x5)] [.int y0, .int y1, .ref (ad 19)] := by
  unfold pX0_drawo_b66 at hp
  obtain ⟨h1, hp⟩ := hp
  refine ww_iast X 19 1 cg_19 rfl (sg' := (sA z 13 y1 y0)) h1 ca_19 dX0_draw_66 ?_
  refine ww_aload_n X dX0_draw_67 0 rfl ?_
  refine ww_dup X dX0_draw_68 rfl ?_
  refine ww_get X in_X0_draw_X0 18 cg_18 rfl 5 (by decide) (X.wd 1 rfl) (v := .int (z.1 14)) rfl dX0_draw_69 ?_
  refine ww_iload X dX0_draw_72 4 rfl ?_
  refine ww_if_eq X (tgt := 81) dX0_draw_74 (by decide) (fun h2 => ?_) (fun h2 => ?_)
  · have hp := hp.1 h2
    refine ww_iconst X (v := 0) dX0_draw_81 (by decide) ?_
    exact ww_sub (lv' := [(0, .ref (ad 18)), (1, .ref (ad 2)), (3, .int x3), (4, .int x4)]) [0, 1, 2, 3] rfl (wX0_drawo_b82 X hK18 x3 x4 0 (z.1 14) (sA z 13 y1 y0) hp)
  · have hp := hp.2 h2
    refine ww_iconst X (v := 1) dX0_draw_77 (by decide) ?_
    refine ww_goto X (tgt := 82) dX0_draw_78 (by decide) ?_
    exact ww_sub (lv' := [(0, .ref (ad 18)), (1, .ref (ad 2)), (3, .int x3), (4, .int x4)]) [0, 1, 2, 3] rfl (wX0_drawo_b82 X hK18 x3 x4 1 (z.1 14) (sA z 13 y1 y0) hp)
set_option maxHeartbeats 4000000 in
set_option maxRecDepth 100000 in
theorem wX0_drawo_b45 {p : Program} {l : Launch} {e : Env} {s : State} {m : MethodId} {args : Array Value} {below : List Frame} {meth : Method} {c : Code} {D : va_G} {A : Nat → Prop} {ad : Nat → Nat} {cB cI cZ : ClassId} {post : Sg → Prop} {K18 : Int32 → Int32 → Sg → Prop} (X : Cx p s m args meth c cX0_draw 6 none RX0 wsX0_draw D (tyL cB cI cZ) A) (hK18 : ∀ (x3 x4 : Int32) (z : Sg), K18 x3 x4 z → WW p l e rmX0_drawo s m args below meth c 6 D A (cW ad cB cI cZ) (QV below args s D (tyL cB cI cZ) (cW ad cB cI cZ) A post) z 18 [(0, .ref (ad 18)), (1, .ref (ad 2)), (3, .int x3), (4, .int x4)] []) (x3 x4 y0 : Int32) (z : Sg) (hp : pX0_drawo_b45 K18 post x3 x4 y0 z) : WW p l e rmX0_drawo s m args below meth c 6 D A (cW ad cB cI cZ) (QV below args s D (tyL cB cI cZ) (cW ad cB cI cZ) A post) z 45 [(0, .ref (ad 18)), (1, .ref (ad 2)), (3, .int x3), (4, .int x4)] [.int y0] := by
  unfold pX0_drawo_b45 at hp
  refine ww_istore X (lv' := [(5, .int y0), (0, .ref (ad 18)), (1, .ref (ad 2)), (3, .int x3), (4, .int x4)]) dX0_draw_45 (by decide) rfl ?_
  refine ww_aload_n X dX0_draw_47 1 rfl ?_
  refine ww_get X in_X0_draw_X0 18 cg_18 rfl 0 (by decide) (X.wd 3 rfl) (v := .ref (ad 19)) rfl dX0_draw_48 ?_
  refine ww_iload X dX0_draw_51 4 rfl ?_
  refine ww_iload X dX0_draw_53 0 rfl ?_
  refine ww_if_eq X (tgt := 65) dX0_draw_55 (by decide) (fun h1 => ?_) (fun h1 => ?_)
  · have hp := hp.1 h1
    refine ww_iconst X (v := (-1)) dX0_draw_65 (by decide) ?_
    exact ww_sub (lv' := [(0, .ref (ad 18)), (1, .ref (ad 2)), (3, .int x3), (4, .int x4), (5, .int y0)]) [1, 2, 3, 4, 0] rfl (wX0_drawo_b66 X hK18 x3 x4 y0 (-1) x4 z hp)
  · have hp := hp.2 h1
    refine ww_aload_n X dX0_draw_58 2 rfl ?_
    refine ww_callN_i X (As := []) (rest := [.int x4, .ref (ad 19)]) (kX3_sum l D ad cB cI cZ  z _ hp) (⟨va_cnB 0 X.hts gX0_draw_X3_sum_n45 rfl rfl rfl (X.hE.2 _ (List.mem_of_getElem? (i := 39) rfl)) (X.wd 7 rfl) hn_X3_sum ⟨Nat.le_of_ble_eq_true rfl, Nat.le_of_ble_eq_true rfl⟩, (X.wd 77 rfl), (X.wd 78 rfl)⟩) 2 3 cg_2 rfl rfl rfl rfl (Nat.le_of_ble_eq_true rfl) dX0_draw_59 (fun r3 u2 hp => ?_)
    refine ww_goto X (tgt := 66) dX0_draw_62 (by decide) ?_
    exact ww_sub (lv' := [(0, .ref (ad 18)), (1, .ref (ad 2)), (3, .int x3), (4, .int x4), (5, .int y0)]) [1, 2, 3, 4, 0] rfl (wX0_drawo_b66 X hK18 x3 x4 y0 r3 x4 u2 hp)
set_option maxHeartbeats 4000000 in
set_option maxRecDepth 100000 in
theorem wX0_drawo_b44 {p : Program} {l : Launch} {e : Env} {s : State} {m : MethodId} {args : Array Value} {below : List Frame} {meth : Method} {c : Code} {D : va_G} {A : Nat → Prop} {ad : Nat → Nat} {cB cI cZ : ClassId} {post : Sg → Prop} {K18 : Int32 → Int32 → Sg → Prop} (X : Cx p s m args meth c cX0_draw 6 none RX0 wsX0_draw D (tyL cB cI cZ) A) (hK18 : ∀ (x3 x4 : Int32) (z : Sg), K18 x3 x4 z → WW p l e rmX0_drawo s m args below meth c 6 D A (cW ad cB cI cZ) (QV below args s D (tyL cB cI cZ) (cW ad cB cI cZ) A post) z 18 [(0, .ref (ad 18)), (1, .ref (ad 2)), (3, .int x3), (4, .int x4)] []) (x3 x4 : Int32) (z : Sg) (hp : pX0_drawo_b44 K18 post x3 x4 z) : WW p l e rmX0_drawo s m args below meth c 6 D A (cW ad cB cI cZ) (QV below args s D (tyL cB cI cZ) (cW ad cB cI cZ) A post) z 44 [(0, .ref (ad 18)), (1, .ref (ad 2)), (3, .int x3), (4, .int x4)] [] := by
  unfold pX0_drawo_b44 at hp
  refine ww_iconst X (v := 0) dX0_draw_44 (by decide) ?_
  exact wX0_drawo_b45 X hK18 x3 x4 0 z hp
set_option maxHeartbeats 4000000 in
set_option maxRecDepth 100000 in
theorem wX0_drawo_b18 {p : Program} {l : Launch} {e : Env} {s : State} {m : MethodId} {args : Array Value} {below : List Frame} {meth : Method} {c : Code} {D : va_G} {A : Nat → Prop} {ad : Nat → Nat} {cB cI cZ : ClassId} {post : Sg → Prop} {K18 : Int32 → Int32 → Sg → Prop} (X : Cx p s m args meth c cX0_draw 6 none RX0 wsX0_draw D (tyL cB cI cZ) A) (hK18 : ∀ (x3 x4 : Int32) (z : Sg), K18 x3 x4 z → WW p l e rmX0_drawo s m args below meth c 6 D A (cW ad cB cI cZ) (QV below args s D (tyL cB cI cZ) (cW ad cB cI cZ) A post) z 18 [(0, .ref (ad 18)), (1, .ref (ad 2)), (3, .int x3), (4, .int x4)] []) (x3 x4 : Int32) (z : Sg) (hp : pX0_drawo_b18 K18 post x3 x4 z) : WW p l e rmX0_drawo s m args below meth c 6 D A (cW ad cB cI cZ) (QV below args s D (tyL cB cI cZ) (cW ad cB cI cZ) A post) z 18 [(0, .ref (ad 18)), (1, .ref (ad 2)), (3, .int x3), (4, .int x4)] [] := by
  unfold pX0_drawo_b18 at hp
  refine ww_iload X dX0_draw_18 3 rfl ?_
  refine ww_bipush X (v := 24) dX0_draw_20 (by decide) ?_
  refine ww_icmp_ge X (tgt := 92) dX0_draw_22 (by decide) (fun h1 => ?_) (fun h1 => ?_)
  · have hp := hp.1 h1
    refine ww_iconst X (v := 0) dX0_draw_92 (by decide) ?_
    refine ww_istore X (lv' := [(4, .int 0), (0, .ref (ad 18)), (1, .ref (ad 2)), (3, .int x3)]) dX0_draw_93 (by decide) rfl ?_
    exact ww_sub (lv' := [(0, .ref (ad 18)), (1, .ref (ad 2)), (4, .int 0)]) [1, 2, 0] rfl (wX0_drawo_l95 X  0 z hp)
  · have hp := hp.2 h1
    refine ww_iload X dX0_draw_25 3 rfl ?_
    refine ww_iload_n X dX0_draw_27 2 rfl ?_
    refine ww_icmp_ge X (tgt := 44) dX0_draw_28 (by decide) (fun h2 => ?_) (fun h2 => ?_)
    · have hp := hp.1 h2
      exact wX0_drawo_b44 X hK18 x3 x4 z hp
    · have hp := hp.2 h2
      refine ww_aload_n X dX0_draw_31 1 rfl ?_
      refine ww_iload X dX0_draw_32 3 rfl ?_
      refine ww_callN_i X (As := [.int x4]) (rest := []) (kX3_measure l D ad cB cI cZ x4 z _ hp) (⟨va_cnB 1 X.hts gX0_draw_X3_measure_n41 rfl rfl rfl (X.hE.2 _ (List.mem_of_getElem? (i := 38) rfl)) (X.wd 7 rfl) hn_X3_measure ⟨Nat.le_of_ble_eq_true rfl, Nat.le_of_ble_eq_true rfl⟩, (X.wd 16 rfl), (X.wd 17 rfl)⟩) 2 3 cg_2 rfl rfl rfl rfl (Nat.le_of_ble_eq_true rfl) dX0_draw_34 (fun r4 u3 hp => ?_)
      refine ww_if_eq X (tgt := 44) dX0_draw_37 (by decide) (fun h5 => ?_) (fun h5 => ?_)
      · have hp := hp.1 h5
        exact wX0_drawo_b44 X hK18 x3 x4 u3 hp
      · have hp := hp.2 h5
        refine ww_iconst X (v := 1) dX0_draw_40 (by decide) ?_
        refine ww_goto X (tgt := 45) dX0_draw_41 (by decide) ?_
        exact wX0_drawo_b45 X hK18 x3 x4 1 u3 hp
set_option maxHeartbeats 4000000 in
set_option maxRecDepth 100000 in
theorem wX0_drawo_l18 {p : Program} {l : Launch} {e : Env} {s : State} {m : MethodId} {args : Array Value} {below : List Frame} {meth : Method} {c : Code} {D : va_G} {A : Nat → Prop} {ad : Nat → Nat} {cB cI cZ : ClassId} {post : Sg → Prop}  (X : Cx p s m args meth c cX0_draw 6 none RX0 wsX0_draw D (tyL cB cI cZ) A)  (x3 x4 : Int32) (z : Sg) (hp : pX0_drawo_l18  post x3 x4 z) : WW p l e rmX0_drawo s m args below meth c 6 D A (cW ad cB cI cZ) (QV below args s D (tyL cB cI cZ) (cW ad cB cI cZ) A post) z 18 [(0, .ref (ad 18)), (1, .ref (ad 2)), (3, .int x3), (4, .int x4)] [] := by
  have key := lp_walk (F := (fun (K : Int32 × Int32 → Sg → Prop) (a : Int32 × Int32) (z : Sg) => pX0_drawo_b18 (fun (x3 x4 : Int32) z => K (x3, x4) z) post a.1 a.2 z)) (P := fun a z => WW p l e rmX0_drawo s m args below meth c 6 D A (cW ad cB cI cZ) (QV below args s D (tyL cB cI cZ) (cW ad cB cI cZ) A post) z 18 [(0, .ref (ad 18)), (1, .ref (ad 2)), (3, .int a.1), (4, .int a.2)] []) (fun K hK a z hp => wX0_drawo_b18 X (fun x3 x4 z h => hK (x3, x4) z h) a.1 a.2 z hp)
  exact key (x3, x4) z hp
set_option maxHeartbeats 4000000 in
set_option maxRecDepth 100000 in
theorem kX0_drawo (l : Launch) (D : va_G) (ad : Nat → Nat) (cB cI cZ : ClassId) (a2 a3 : Int32) (z : Sg) (post : Sg → Prop) (hp : pX0_drawo a2 a3 z post) : Cv l D (tyL cB cI cZ) (cW ad cB cI cZ) yX0_draw wsX0_draw rmX0_drawo [.ref (ad 18), .ref (ad 2), .int a2, .int a3] z post := by
  refine Cv.of (cc := cX0_draw) (maxL := 6) (ret := none) (by decide) rfl (Nat.le_of_ble_eq_true rfl) ?_
  intro p e s m args below meth c A X
  have X : Cx p s m args meth c cX0_draw 6 none RX0 wsX0_draw D (tyL cB cI cZ) A := X
  show WW p l e rmX0_drawo s m args below meth c 6 D A (cW ad cB cI cZ) (QV below args s D (tyL cB cI cZ) (cW ad cB cI cZ) A post) z 0 [(0, .ref (ad 18)), (1, .ref (ad 2)), (2, .int a2), (3, .int a3)] []
  unfold pX0_drawo at hp
  refine ww_aload_n X dX0_draw_0 1 rfl ?_
  refine ww_iload_n X dX0_draw_1 2 rfl ?_
  refine ww_callN_v X (As := [.int a2]) (rest := []) (kX3_know l D ad cB cI cZ a2 z _ hp) (⟨va_cnB 1 X.hts gX0_draw_X3_know_n28 rfl rfl rfl (X.hE.2 _ (List.mem_of_getElem? (i := 37) rfl)) (X.wd 7 rfl) hn_X3_know ⟨Nat.le_of_ble_eq_true rfl, Nat.le_of_ble_eq_true rfl⟩, (X.wd 6 rfl), (X.wd 8 rfl)⟩) 2 3 cg_2 rfl rfl rfl rfl (Nat.le_of_ble_eq_true rfl) dX0_draw_2 (fun u1 hp => ?_)
  refine ww_aload_n X dX0_draw_5 0 rfl ?_
  refine ww_iconst X (v := 0) dX0_draw_6 (by decide) ?_
  refine ww_put X in_X0_draw_X0 tyX0 tyX0_ok nmX0 18 cg_18 rfl 5 (by decide) (X.wd 1 rfl) rfl pd_X0_5 (Nat.le_of_ble_eq_true rfl) (sg' := (sS u1 14 0)) cs_14 dX0_draw_7 ?_
  refine ww_aload_n X dX0_draw_10 0 rfl ?_
  refine ww_iconst X (v := 0) dX0_draw_11 (by decide) ?_
  refine ww_put X in_X0_draw_X0 tyX0 tyX0_ok nmX0 18 cg_18 rfl 6 (by decide) (X.wd 2 rfl) rfl pd_X0_6 (Nat.le_of_ble_eq_true rfl) (sg' := (sS (sS u1 14 0) 15 0)) cs_15 dX0_draw_12 ?_
  refine ww_iconst X (v := 0) dX0_draw_15 (by decide) ?_
  refine ww_istore X (lv' := [(4, .int 0), (0, .ref (ad 18)), (1, .ref (ad 2)), (2, .int a2), (3, .int a3)]) dX0_draw_16 (by decide) rfl ?_
  exact ww_sub (lv' := [(0, .ref (ad 18)), (1, .ref (ad 2)), (3, .int a3), (4, .int 0)]) [1, 2, 4, 0] rfl (wX0_drawo_l18 X  a3 0 (sS (sS u1 14 0) 15 0) hp)
set_option maxHeartbeats 4000000 in
set_option maxRecDepth 100000 in
theorem wX0_placeOfo_b20 {p : Program} {l : Launch} {e : Env} {s : State} {m : MethodId} {args : Array Value} {below : List Frame} {meth : Method} {c : Code} {D : va_G} {A : Nat → Prop} {ad : Nat → Nat} {cB cI cZ : ClassId} {post : Int32 → Sg → Prop}  (X : Cx p s m args meth c cX0_placeOf 2 (some .int) RX0 wsX0_placeOf D (tyL cB cI cZ) A)  (y0 : Int32) (z : Sg) (hp : pX0_placeOfo_b20  post y0 z) : WW p l e rmX0_placeOfo s m args below meth c 2 D A (cW ad cB cI cZ) (QI below args s D (tyL cB cI cZ) (cW ad cB cI cZ) A post) z 20 [(0, .ref (ad 18))] [.int y0] := by
  unfold pX0_placeOfo_b20 at hp
  exact ww_iret X hp dX0_placeOf_20
set_option maxHeartbeats 4000000 in
set_option maxRecDepth 100000 in
theorem wX0_placeOfo_b19 {p : Program} {l : Launch} {e : Env} {s : State} {m : MethodId} {args : Array Value} {below : List Frame} {meth : Method} {c : Code} {D : va_G} {A : Nat → Prop} {ad : Nat → Nat} {cB cI cZ : ClassId} {post : Int32 → Sg → Prop}  (X : Cx p s m args meth c cX0_placeOf 2 (some .int) RX0 wsX0_placeOf D (tyL cB cI cZ) A)  (z : Sg) (hp : pX0_placeOfo_b19  post  z) : WW p l e rmX0_placeOfo s m args below meth c 2 D A (cW ad cB cI cZ) (QI below args s D (tyL cB cI cZ) (cW ad cB cI cZ) A post) z 19 [(0, .ref (ad 18))] [] := by
  unfold pX0_placeOfo_b19 at hp
  refine ww_iconst X (v := 0) dX0_placeOf_19 (by decide) ?_
  exact wX0_placeOfo_b20 X  0 z hp
set_option maxHeartbeats 4000000 in
set_option maxRecDepth 100000 in
theorem kX0_placeOfo (l : Launch) (D : va_G) (ad : Nat → Nat) (cB cI cZ : ClassId) (a1 : Int32) (z : Sg) (post : Int32 → Sg → Prop) (hp : pX0_placeOfo a1 z post) : Ci l D (tyL cB cI cZ) (cW ad cB cI cZ) yX0_placeOf wsX0_placeOf rmX0_placeOfo [.ref (ad 18), .int a1] z post := by
  refine Ci.of (cc := cX0_placeOf) (maxL := 2) (ret := (some .int)) (by decide) rfl (Nat.le_of_ble_eq_true rfl) ?_
  intro p e s m args below meth c A X
  have X : Cx p s m args meth c cX0_placeOf 2 (some .int) RX0 wsX0_placeOf D (tyL cB cI cZ) A := X
  show WW p l e rmX0_placeOfo s m args below meth c 2 D A (cW ad cB cI cZ) (QI below args s D (tyL cB cI cZ) (cW ad cB cI cZ) A post) z 0 [(0, .ref (ad 18)), (1, .int a1)] []
  unfold pX0_placeOfo at hp
  refine ww_iload_n X dX0_placeOf_0 1 rfl ?_
  refine ww_if_lt X (tgt := 19) dX0_placeOf_1 (by decide) (fun h1 => ?_) (fun h1 => ?_)
  · have hp := hp.1 h1
    exact ww_sub (lv' := [(0, .ref (ad 18))]) [0] rfl (wX0_placeOfo_b19 X   z hp)
  · have hp := hp.2 h1
    refine ww_iload_n X dX0_placeOf_4 1 rfl ?_
    refine ww_bipush X (v := 24) dX0_placeOf_5 (by decide) ?_
    refine ww_icmp_ge X (tgt := 19) dX0_placeOf_7 (by decide) (fun h2 => ?_) (fun h2 => ?_)
    · have hp := hp.1 h2
      exact ww_sub (lv' := [(0, .ref (ad 18))]) [0] rfl (wX0_placeOfo_b19 X   z hp)
    · have hp := hp.2 h2
      refine ww_aload_n X dX0_placeOf_10 0 rfl ?_
      refine ww_get X in_X0_placeOf_X0 18 cg_18 rfl 3 (by decide) (X.wd 1 rfl) (v := .ref (ad 22)) rfl dX0_placeOf_11 ?_
      refine ww_iload_n X dX0_placeOf_14 1 rfl ?_
      obtain ⟨h3, hp⟩ := hp
      refine ww_iald X 22 1 cg_22 rfl (v := (gA z 16 a1)) h3 rfl dX0_placeOf_15 ?_
      refine ww_goto X (tgt := 20) dX0_placeOf_16 (by decide) ?_
      exact ww_sub (lv' := [(0, .ref (ad 18))]) [0] rfl (wX0_placeOfo_b20 X  (gA z 16 a1) z hp)
set_option maxHeartbeats 4000000 in
set_option maxRecDepth 100000 in
theorem wX0_isListed_b13 {p : Program} {l : Launch} {e : Env} {s : State} {m : MethodId} {args : Array Value} {below : List Frame} {meth : Method} {c : Code} {D : va_G} {A : Nat → Prop} {ad : Nat → Nat} {cB cI cZ : ClassId} {post : Int32 → Sg → Prop}  (X : Cx p s m args meth c cX0_isListed 2 (some .boolean) RX0 wsX0_isListed D (tyL cB cI cZ) A)  (y0 : Int32) (z : Sg) (hp : pX0_isListed_b13  post y0 z) : WW p l e rmX0_isListed s m args below meth c 2 D A (cW ad cB cI cZ) (QI below args s D (tyL cB cI cZ) (cW ad cB cI cZ) A post) z 13 [(0, .ref (ad 12))] [.int y0] := by
  unfold pX0_isListed_b13 at hp
  exact ww_zret X hp.1 hp.2 dX0_isListed_13
set_option maxHeartbeats 4000000 in
set_option maxRecDepth 100000 in
theorem kX0_isListed (l : Launch) (D : va_G) (ad : Nat → Nat) (cB cI cZ : ClassId) (a1 : Int32) (z : Sg) (post : Int32 → Sg → Prop) (hp : pX0_isListed a1 z post) : Ci l D (tyL cB cI cZ) (cW ad cB cI cZ) yX0_isListed wsX0_isListed rmX0_isListed [.ref (ad 12), .int a1] z post := by
  refine Ci.of (cc := cX0_isListed) (maxL := 2) (ret := (some .boolean)) (by decide) rfl (Nat.le_of_ble_eq_true rfl) ?_
  intro p e s m args below meth c A X
  have X : Cx p s m args meth c cX0_isListed 2 (some .boolean) RX0 wsX0_isListed D (tyL cB cI cZ) A := X
  show WW p l e rmX0_isListed s m args below meth c 2 D A (cW ad cB cI cZ) (QI below args s D (tyL cB cI cZ) (cW ad cB cI cZ) A post) z 0 [(0, .ref (ad 12)), (1, .int a1)] []
  unfold pX0_isListed at hp
  refine ww_aload_n X dX0_isListed_0 0 rfl ?_
  refine ww_iload_n X dX0_isListed_1 1 rfl ?_
  refine ww_callV_i X (As := [.int a1]) (rest := []) (kX0_placeOf l D ad cB cI cZ a1 z _ hp) (cwV 1 X.hts gX0_isListed_X0_placeOf rfl rfl rfl hd_X0_placeOf ⟨Nat.le_of_ble_eq_true rfl, Nat.le_of_ble_eq_true rfl⟩) 12 0 cg_12 rfl rfl rfl rfl (Nat.le_of_ble_eq_true rfl) dX0_isListed_2 (fun r2 u1 hp => ?_)
  refine ww_if_le X (tgt := 12) dX0_isListed_5 (by decide) (fun h3 => ?_) (fun h3 => ?_)
  · have hp := hp.1 h3
    refine ww_iconst X (v := 0) dX0_isListed_12 (by decide) ?_
    exact ww_sub (lv' := [(0, .ref (ad 12))]) [0] rfl (wX0_isListed_b13 X  0 u1 hp)
  · have hp := hp.2 h3
    refine ww_iconst X (v := 1) dX0_isListed_8 (by decide) ?_
    refine ww_goto X (tgt := 13) dX0_isListed_9 (by decide) ?_
    exact ww_sub (lv' := [(0, .ref (ad 12))]) [0] rfl (wX0_isListed_b13 X  1 u1 hp)
set_option maxHeartbeats 4000000 in
set_option maxRecDepth 100000 in
theorem wX0_isThrough_b24 {p : Program} {l : Launch} {e : Env} {s : State} {m : MethodId} {args : Array Value} {below : List Frame} {meth : Method} {c : Code} {D : va_G} {A : Nat → Prop} {ad : Nat → Nat} {cB cI cZ : ClassId} {post : Int32 → Sg → Prop}  (X : Cx p s m args meth c cX0_isThrough 2 (some .boolean) RX0 wsX0_isThrough D (tyL cB cI cZ) A)  (y0 : Int32) (z : Sg) (hp : pX0_isThrough_b24  post y0 z) : WW p l e rmX0_isThrough s m args below meth c 2 D A (cW ad cB cI cZ) (QI below args s D (tyL cB cI cZ) (cW ad cB cI cZ) A post) z 24 [(0, .ref (ad 12))] [.int y0] := by
  unfold pX0_isThrough_b24 at hp
  exact ww_zret X hp.1 hp.2 dX0_isThrough_24
set_option maxHeartbeats 4000000 in
set_option maxRecDepth 100000 in
theorem wX0_isThrough_b23 {p : Program} {l : Launch} {e : Env} {s : State} {m : MethodId} {args : Array Value} {below : List Frame} {meth : Method} {c : Code} {D : va_G} {A : Nat → Prop} {ad : Nat → Nat} {cB cI cZ : ClassId} {post : Int32 → Sg → Prop}  (X : Cx p s m args meth c cX0_isThrough 2 (some .boolean) RX0 wsX0_isThrough D (tyL cB cI cZ) A)  (z : Sg) (hp : pX0_isThrough_b23  post  z) : WW p l e rmX0_isThrough s m args below meth c 2 D A (cW ad cB cI cZ) (QI below args s D (tyL cB cI cZ) (cW ad cB cI cZ) A post) z 23 [(0, .ref (ad 12))] [] := by
  unfold pX0_isThrough_b23 at hp
  refine ww_iconst X (v := 0) dX0_isThrough_23 (by decide) ?_
  exact wX0_isThrough_b24 X  0 z hp
set_option maxHeartbeats 4000000 in
set_option maxRecDepth 100000 in
theorem kX0_isThrough (l : Launch) (D : va_G) (ad : Nat → Nat) (cB cI cZ : ClassId) (a1 : Int32) (z : Sg) (post : Int32 → Sg → Prop) (hp : pX0_isThrough a1 z post) : Ci l D (tyL cB cI cZ) (cW ad cB cI cZ) yX0_isThrough wsX0_isThrough rmX0_isThrough [.ref (ad 12), .int a1] z post := by
  refine Ci.of (cc := cX0_isThrough) (maxL := 2) (ret := (some .boolean)) (by decide) rfl (Nat.le_of_ble_eq_true rfl) ?_
  intro p e s m args below meth c A X
  have X : Cx p s m args meth c cX0_isThrough 2 (some .boolean) RX0 wsX0_isThrough D (tyL cB cI cZ) A := X
  show WW p l e rmX0_isThrough s m args below meth c 2 D A (cW ad cB cI cZ) (QI below args s D (tyL cB cI cZ) (cW ad cB cI cZ) A post) z 0 [(0, .ref (ad 12)), (1, .int a1)] []
  unfold pX0_isThrough at hp
  refine ww_iload_n X dX0_isThrough_0 1 rfl ?_
  refine ww_if_lt X (tgt := 23) dX0_isThrough_1 (by decide) (fun h1 => ?_) (fun h1 => ?_)
  · have hp := hp.1 h1
    exact ww_sub (lv' := [(0, .ref (ad 12))]) [0] rfl (wX0_isThrough_b23 X   z hp)
  · have hp := hp.2 h1
    refine ww_iload_n X dX0_isThrough_4 1 rfl ?_
    refine ww_bipush X (v := 24) dX0_isThrough_5 (by decide) ?_
    refine ww_icmp_ge X (tgt := 23) dX0_isThrough_7 (by decide) (fun h2 => ?_) (fun h2 => ?_)
    · have hp := hp.1 h2
      exact ww_sub (lv' := [(0, .ref (ad 12))]) [0] rfl (wX0_isThrough_b23 X   z hp)
    · have hp := hp.2 h2
      refine ww_aload_n X dX0_isThrough_10 0 rfl ?_
      refine ww_get X in_X0_isThrough_X0 12 cg_12 rfl 1 (by decide) (X.wd 1 rfl) (v := .ref (ad 14)) rfl dX0_isThrough_11 ?_
      refine ww_iload_n X dX0_isThrough_14 1 rfl ?_
      obtain ⟨h3, hp⟩ := hp
      refine ww_zald X 14 2 cg_14 rfl (v := (gA z 9 a1)) h3 rfl dX0_isThrough_15 ?_
      refine ww_if_eq X (tgt := 23) dX0_isThrough_16 (by decide) (fun h4 => ?_) (fun h4 => ?_)
      · have hp := hp.1 h4
        exact ww_sub (lv' := [(0, .ref (ad 12))]) [0] rfl (wX0_isThrough_b23 X   z hp)
      · have hp := hp.2 h4
        refine ww_iconst X (v := 1) dX0_isThrough_19 (by decide) ?_
        refine ww_goto X (tgt := 24) dX0_isThrough_20 (by decide) ?_
        exact ww_sub (lv' := [(0, .ref (ad 12))]) [0] rfl (wX0_isThrough_b24 X  1 z hp)
set_option maxHeartbeats 4000000 in
set_option maxRecDepth 100000 in
theorem wX0_totalOf_b20 {p : Program} {l : Launch} {e : Env} {s : State} {m : MethodId} {args : Array Value} {below : List Frame} {meth : Method} {c : Code} {D : va_G} {A : Nat → Prop} {ad : Nat → Nat} {cB cI cZ : ClassId} {post : Int32 → Sg → Prop}  (X : Cx p s m args meth c cX0_totalOf 2 (some .int) RX0 wsX0_totalOf D (tyL cB cI cZ) A)  (y0 : Int32) (z : Sg) (hp : pX0_totalOf_b20  post y0 z) : WW p l e rmX0_totalOf s m args below meth c 2 D A (cW ad cB cI cZ) (QI below args s D (tyL cB cI cZ) (cW ad cB cI cZ) A post) z 20 [(0, .ref (ad 12))] [.int y0] := by
  unfold pX0_totalOf_b20 at hp
  exact ww_iret X hp dX0_totalOf_20
set_option maxHeartbeats 4000000 in
set_option maxRecDepth 100000 in
theorem wX0_totalOf_b19 {p : Program} {l : Launch} {e : Env} {s : State} {m : MethodId} {args : Array Value} {below : List Frame} {meth : Method} {c : Code} {D : va_G} {A : Nat → Prop} {ad : Nat → Nat} {cB cI cZ : ClassId} {post : Int32 → Sg → Prop}  (X : Cx p s m args meth c cX0_totalOf 2 (some .int) RX0 wsX0_totalOf D (tyL cB cI cZ) A)  (z : Sg) (hp : pX0_totalOf_b19  post  z) : WW p l e rmX0_totalOf s m args below meth c 2 D A (cW ad cB cI cZ) (QI below args s D (tyL cB cI cZ) (cW ad cB cI cZ) A post) z 19 [(0, .ref (ad 12))] [] := by
  unfold pX0_totalOf_b19 at hp
  refine ww_iconst X (v := 0) dX0_totalOf_19 (by decide) ?_
  exact wX0_totalOf_b20 X  0 z hp
set_option maxHeartbeats 4000000 in
set_option maxRecDepth 100000 in
theorem kX0_totalOf (l : Launch) (D : va_G) (ad : Nat → Nat) (cB cI cZ : ClassId) (a1 : Int32) (z : Sg) (post : Int32 → Sg → Prop) (hp : pX0_totalOf a1 z post) : Ci l D (tyL cB cI cZ) (cW ad cB cI cZ) yX0_totalOf wsX0_totalOf rmX0_totalOf [.ref (ad 12), .int a1] z post := by
  refine Ci.of (cc := cX0_totalOf) (maxL := 2) (ret := (some .int)) (by decide) rfl (Nat.le_of_ble_eq_true rfl) ?_
  intro p e s m args below meth c A X
  have X : Cx p s m args meth c cX0_totalOf 2 (some .int) RX0 wsX0_totalOf D (tyL cB cI cZ) A := X
  show WW p l e rmX0_totalOf s m args below meth c 2 D A (cW ad cB cI cZ) (QI below args s D (tyL cB cI cZ) (cW ad cB cI cZ) A post) z 0 [(0, .ref (ad 12)), (1, .int a1)] []
  unfold pX0_totalOf at hp
  refine ww_iload_n X dX0_totalOf_0 1 rfl ?_
  refine ww_if_lt X (tgt := 19) dX0_totalOf_1 (by decide) (fun h1 => ?_) (fun h1 => ?_)
  · have hp := hp.1 h1
    exact ww_sub (lv' := [(0, .ref (ad 12))]) [0] rfl (wX0_totalOf_b19 X   z hp)
  · have hp := hp.2 h1
    refine ww_iload_n X dX0_totalOf_4 1 rfl ?_
    refine ww_bipush X (v := 24) dX0_totalOf_5 (by decide) ?_
    refine ww_icmp_ge X (tgt := 19) dX0_totalOf_7 (by decide) (fun h2 => ?_) (fun h2 => ?_)
    · have hp := hp.1 h2
      exact ww_sub (lv' := [(0, .ref (ad 12))]) [0] rfl (wX0_totalOf_b19 X   z hp)
    · have hp := hp.2 h2
      refine ww_aload_n X dX0_totalOf_10 0 rfl ?_
      refine ww_get X in_X0_totalOf_X0 12 cg_12 rfl 2 (by decide) (X.wd 1 rfl) (v := .ref (ad 15)) rfl dX0_totalOf_11 ?_
      refine ww_iload_n X dX0_totalOf_14 1 rfl ?_
      obtain ⟨h3, hp⟩ := hp
      refine ww_iald X 15 1 cg_15 rfl (v := (gA z 10 a1)) h3 rfl dX0_totalOf_15 ?_
      refine ww_goto X (tgt := 20) dX0_totalOf_16 (by decide) ?_
      exact ww_sub (lv' := [(0, .ref (ad 12))]) [0] rfl (wX0_totalOf_b20 X  (gA z 10 a1) z hp)
set_option maxHeartbeats 4000000 in
set_option maxRecDepth 100000 in
theorem wX0_isPosition_b17 {p : Program} {l : Launch} {e : Env} {s : State} {m : MethodId} {args : Array Value} {below : List Frame} {meth : Method} {c : Code} {D : va_G} {A : Nat → Prop} {ad : Nat → Nat} {cB cI cZ : ClassId} {post : Int32 → Sg → Prop}  (X : Cx p s m args meth c cX0_isPosition 2 (some .boolean) RX0 wsX0_isPosition D (tyL cB cI cZ) A)  (y0 : Int32) (z : Sg) (hp : pX0_isPosition_b17  post y0 z) : WW p l e rmX0_isPosition s m args below meth c 2 D A (cW ad cB cI cZ) (QI below args s D (tyL cB cI cZ) (cW ad cB cI cZ) A post) z 17 [(0, .ref (ad 12))] [.int y0] := by
  unfold pX0_isPosition_b17 at hp
  exact ww_zret X hp.1 hp.2 dX0_isPosition_17
set_option maxHeartbeats 4000000 in
set_option maxRecDepth 100000 in
theorem wX0_isPosition_b16 {p : Program} {l : Launch} {e : Env} {s : State} {m : MethodId} {args : Array Value} {below : List Frame} {meth : Method} {c : Code} {D : va_G} {A : Nat → Prop} {ad : Nat → Nat} {cB cI cZ : ClassId} {post : Int32 → Sg → Prop}  (X : Cx p s m args meth c cX0_isPosition 2 (some .boolean) RX0 wsX0_isPosition D (tyL cB cI cZ) A)  (z : Sg) (hp : pX0_isPosition_b16  post  z) : WW p l e rmX0_isPosition s m args below meth c 2 D A (cW ad cB cI cZ) (QI below args s D (tyL cB cI cZ) (cW ad cB cI cZ) A post) z 16 [(0, .ref (ad 12))] [] := by
  unfold pX0_isPosition_b16 at hp
  refine ww_iconst X (v := 0) dX0_isPosition_16 (by decide) ?_
  exact wX0_isPosition_b17 X  0 z hp
set_option maxHeartbeats 4000000 in
set_option maxRecDepth 100000 in
theorem kX0_isPosition (l : Launch) (D : va_G) (ad : Nat → Nat) (cB cI cZ : ClassId) (a1 : Int32) (z : Sg) (post : Int32 → Sg → Prop) (hp : pX0_isPosition a1 z post) : Ci l D (tyL cB cI cZ) (cW ad cB cI cZ) yX0_isPosition wsX0_isPosition rmX0_isPosition [.ref (ad 12), .int a1] z post := by
  refine Ci.of (cc := cX0_isPosition) (maxL := 2) (ret := (some .boolean)) (by decide) rfl (Nat.le_of_ble_eq_true rfl) ?_
  intro p e s m args below meth c A X
  have X : Cx p s m args meth c cX0_isPosition 2 (some .boolean) RX0 wsX0_isPosition D (tyL cB cI cZ) A := X
  show WW p l e rmX0_isPosition s m args below meth c 2 D A (cW ad cB cI cZ) (QI below args s D (tyL cB cI cZ) (cW ad cB cI cZ) A post) z 0 [(0, .ref (ad 12)), (1, .int a1)] []
  unfold pX0_isPosition at hp
  refine ww_iload_n X dX0_isPosition_0 1 rfl ?_
  refine ww_if_lt X (tgt := 16) dX0_isPosition_1 (by decide) (fun h1 => ?_) (fun h1 => ?_)
  · have hp := hp.1 h1
    exact ww_sub (lv' := [(0, .ref (ad 12))]) [0] rfl (wX0_isPosition_b16 X   z hp)
  · have hp := hp.2 h1
    refine ww_iload_n X dX0_isPosition_4 1 rfl ?_
    refine ww_aload_n X dX0_isPosition_5 0 rfl ?_
    refine ww_get X in_X0_isPosition_X0 12 cg_12 rfl 5 (by decide) (X.wd 1 rfl) (v := .int (z.1 12)) rfl dX0_isPosition_6 ?_
    refine ww_icmp_ge X (tgt := 16) dX0_isPosition_9 (by decide) (fun h2 => ?_) (fun h2 => ?_)
    · have hp := hp.1 h2
      exact ww_sub (lv' := [(0, .ref (ad 12))]) [0] rfl (wX0_isPosition_b16 X   z hp)
    · have hp := hp.2 h2
      refine ww_iconst X (v := 1) dX0_isPosition_12 (by decide) ?_
      refine ww_goto X (tgt := 17) dX0_isPosition_13 (by decide) ?_
      exact ww_sub (lv' := [(0, .ref (ad 12))]) [0] rfl (wX0_isPosition_b17 X  1 z hp)
set_option maxHeartbeats 4000000 in
set_option maxRecDepth 100000 in
theorem wX0_jumperAt_b22 {p : Program} {l : Launch} {e : Env} {s : State} {m : MethodId} {args : Array Value} {below : List Frame} {meth : Method} {c : Code} {D : va_G} {A : Nat → Prop} {ad : Nat → Nat} {cB cI cZ : ClassId} {post : Int32 → Sg → Prop}  (X : Cx p s m args meth c cX0_jumperAt 2 (some .int) RX0 wsX0_jumperAt D (tyL cB cI cZ) A)  (y0 : Int32) (z : Sg) (hp : pX0_jumperAt_b22  post y0 z) : WW p l e rmX0_jumperAt s m args below meth c 2 D A (cW ad cB cI cZ) (QI below args s D (tyL cB cI cZ) (cW ad cB cI cZ) A post) z 22 [(0, .ref (ad 12))] [.int y0] := by
  unfold pX0_jumperAt_b22 at hp
  exact ww_iret X hp dX0_jumperAt_22
set_option maxHeartbeats 4000000 in
set_option maxRecDepth 100000 in
theorem wX0_jumperAt_b19 {p : Program} {l : Launch} {e : Env} {s : State} {m : MethodId} {args : Array Value} {below : List Frame} {meth : Method} {c : Code} {D : va_G} {A : Nat → Prop} {ad : Nat → Nat} {cB cI cZ : ClassId} {post : Int32 → Sg → Prop}  (X : Cx p s m args meth c cX0_jumperAt 2 (some .int) RX0 wsX0_jumperAt D (tyL cB cI cZ) A)  (z : Sg) (hp : pX0_jumperAt_b19  post  z) : WW p l e rmX0_jumperAt s m args below meth c 2 D A (cW ad cB cI cZ) (QI below args s D (tyL cB cI cZ) (cW ad cB cI cZ) A post) z 19 [(0, .ref (ad 12))] [] := by
  unfold pX0_jumperAt_b19 at hp
  refine ww_sipush X (v := (-10000)) dX0_jumperAt_19 (by decide) ?_
  exact wX0_jumperAt_b22 X  (-10000) z hp
set_option maxHeartbeats 4000000 in
set_option maxRecDepth 100000 in
theorem kX0_jumperAt (l : Launch) (D : va_G) (ad : Nat → Nat) (cB cI cZ : ClassId) (a1 : Int32) (z : Sg) (post : Int32 → Sg → Prop) (hp : pX0_jumperAt a1 z post) : Ci l D (tyL cB cI cZ) (cW ad cB cI cZ) yX0_jumperAt wsX0_jumperAt rmX0_jumperAt [.ref (ad 12), .int a1] z post := by
  refine Ci.of (cc := cX0_jumperAt) (maxL := 2) (ret := (some .int)) (by decide) rfl (Nat.le_of_ble_eq_true rfl) ?_
  intro p e s m args below meth c A X
  have X : Cx p s m args meth c cX0_jumperAt 2 (some .int) RX0 wsX0_jumperAt D (tyL cB cI cZ) A := X
  show WW p l e rmX0_jumperAt s m args below meth c 2 D A (cW ad cB cI cZ) (QI below args s D (tyL cB cI cZ) (cW ad cB cI cZ) A post) z 0 [(0, .ref (ad 12)), (1, .int a1)] []
  unfold pX0_jumperAt at hp
  refine ww_iload_n X dX0_jumperAt_0 1 rfl ?_
  refine ww_if_lt X (tgt := 19) dX0_jumperAt_1 (by decide) (fun h1 => ?_) (fun h1 => ?_)
  · have hp := hp.1 h1
    exact ww_sub (lv' := [(0, .ref (ad 12))]) [0] rfl (wX0_jumperAt_b19 X   z hp)
  · have hp := hp.2 h1
    refine ww_iload_n X dX0_jumperAt_4 1 rfl ?_
    refine ww_bipush X (v := 24) dX0_jumperAt_5 (by decide) ?_
    refine ww_icmp_ge X (tgt := 19) dX0_jumperAt_7 (by decide) (fun h2 => ?_) (fun h2 => ?_)
    · have hp := hp.1 h2
      exact ww_sub (lv' := [(0, .ref (ad 12))]) [0] rfl (wX0_jumperAt_b19 X   z hp)
    · have hp := hp.2 h2
      refine ww_aload_n X dX0_jumperAt_10 0 rfl ?_
      refine ww_get X in_X0_jumperAt_X0 12 cg_12 rfl 4 (by decide) (X.wd 1 rfl) (v := .ref (ad 17)) rfl dX0_jumperAt_11 ?_
      refine ww_iload_n X dX0_jumperAt_14 1 rfl ?_
      obtain ⟨h3, hp⟩ := hp
      refine ww_iald X 17 1 cg_17 rfl (v := (gA z 12 a1)) h3 rfl dX0_jumperAt_15 ?_
      refine ww_goto X (tgt := 22) dX0_jumperAt_16 (by decide) ?_
      exact ww_sub (lv' := [(0, .ref (ad 12))]) [0] rfl (wX0_jumperAt_b22 X  (gA z 12 a1) z hp)
set_option maxHeartbeats 4000000 in
set_option maxRecDepth 100000 in
theorem wX0_startersBefore_b72 {p : Program} {l : Launch} {e : Env} {s : State} {m : MethodId} {args : Array Value} {below : List Frame} {meth : Method} {c : Code} {D : va_G} {A : Nat → Prop} {ad : Nat → Nat} {cB cI cZ : ClassId} {post : Int32 → Sg → Prop} {K4 : Int32 → Int32 → Int32 → Sg → Prop} (X : Cx p s m args meth c cX0_startersBefore 5 (some .int) RX0 wsX0_startersBefore D (tyL cB cI cZ) A) (hK4 : ∀ (x1 x2 x3 : Int32) (z : Sg), K4 x1 x2 x3 z → WW p l e rmX0_startersBefore s m args below meth c 5 D A (cW ad cB cI cZ) (QI below args s D (tyL cB cI cZ) (cW ad cB cI cZ) A post) z 4 [(0, .ref (ad 12)), (1, .int x1), (2, .int x2), (3, .int x3)] []) (x1 x3 y0 y1 : Int32) (z : Sg) (hp : pX0_startersBefore_b72 K4 post x1 x3 y0 y1 z) : WW p l e rmX0_startersBefore s m args below meth c 5 D A (cW ad cB cI cZ) (QI below args s D (tyL cB cI cZ) (cW ad cB cI cZ) A post) z 72 [(0, .ref (ad 12)), (1, .int x1), (3, .int x3)] [.int y0, .int y1] := by
  unfold pX0_startersBefore_b72 at hp
  refine ww_iadd X dX0_startersBefore_72 ?_
  refine ww_top (fun v1 hv1 => ?_)
  have hp := hp v1 hv1
  refine ww_istore_n X (lv' := [(2, .int v1), (0, .ref (ad 12)), (1, .int x1), (3, .int x3)]) dX0_startersBefore_73 (by decide) rfl ?_
  refine ww_iinc X (v := (x3 + 1)) (lv' := [(3, .int (x3 + 1)), (2, .int v1), (0, .ref (ad 12)), (1, .int x1)]) dX0_startersBefore_74 3 rfl rfl (by decide) rfl ?_
  refine ww_goto X (tgt := 4) dX0_startersBefore_77 (by decide) ?_
  exact ww_sub (lv' := [(0, .ref (ad 12)), (1, .int x1), (2, .int v1), (3, .int (x3 + 1))]) [2, 3, 1, 0] rfl (hK4 x1 v1 (x3 + 1) z hp)
set_option maxHeartbeats 4000000 in
set_option maxRecDepth 100000 in
theorem wX0_startersBefore_b59 {p : Program} {l : Launch} {e : Env} {s : State} {m : MethodId} {args : Array Value} {below : List Frame} {meth : Method} {c : Code} {D : va_G} {A : Nat → Prop} {ad : Nat → Nat} {cB cI cZ : ClassId} {post : Int32 → Sg → Prop} {K4 : Int32 → Int32 → Int32 → Sg → Prop} (X : Cx p s m args meth c cX0_startersBefore 5 (some .int) RX0 wsX0_startersBefore D (tyL cB cI cZ) A) (hK4 : ∀ (x1 x2 x3 : Int32) (z : Sg), K4 x1 x2 x3 z → WW p l e rmX0_startersBefore s m args below meth c 5 D A (cW ad cB cI cZ) (QI below args s D (tyL cB cI cZ) (cW ad cB cI cZ) A post) z 4 [(0, .ref (ad 12)), (1, .int x1), (2, .int x2), (3, .int x3)] []) (x1 x2 x3 y0 : Int32) (z : Sg) (hp : pX0_startersBefore_b59 K4 post x1 x2 x3 y0 z) : WW p l e rmX0_startersBefore s m args below meth c 5 D A (cW ad cB cI cZ) (QI below args s D (tyL cB cI cZ) (cW ad cB cI cZ) A post) z 59 [(0, .ref (ad 12)), (1, .int x1), (2, .int x2), (3, .int x3)] [.int y0] := by
  unfold pX0_startersBefore_b59 at hp
  refine ww_istore X (lv' := [(4, .int y0), (0, .ref (ad 12)), (1, .int x1), (2, .int x2), (3, .int x3)]) dX0_startersBefore_59 (by decide) rfl ?_
  refine ww_iload_n X dX0_startersBefore_61 3 rfl ?_
  refine ww_iload X dX0_startersBefore_62 0 rfl ?_
  refine ww_if_eq X (tgt := 71) dX0_startersBefore_64 (by decide) (fun h1 => ?_) (fun h1 => ?_)
  · have hp := hp.1 h1
    refine ww_iconst X (v := 0) dX0_startersBefore_71 (by decide) ?_
    exact ww_sub (lv' := [(0, .ref (ad 12)), (1, .int x1), (3, .int x3)]) [1, 2, 4] rfl (wX0_startersBefore_b72 X hK4 x1 x3 0 x2 z hp)
  · have hp := hp.2 h1
    refine ww_iconst X (v := 1) dX0_startersBefore_67 (by decide) ?_
    refine ww_goto X (tgt := 72) dX0_startersBefore_68 (by decide) ?_
    exact ww_sub (lv' := [(0, .ref (ad 12)), (1, .int x1), (3, .int x3)]) [1, 2, 4] rfl (wX0_startersBefore_b72 X hK4 x1 x3 1 x2 z hp)
set_option maxHeartbeats 4000000 in
set_option maxRecDepth 100000 in
theorem wX0_startersBefore_b58 {p : Program} {l : Launch} {e : Env} {s : State} {m : MethodId} {args : Array Value} {below : List Frame} {meth : Method} {c : Code} {D : va_G} {A : Nat → Prop} {ad : Nat → Nat} {cB cI cZ : ClassId} {post : Int32 → Sg → Prop} {K4 : Int32 → Int32 → Int32 → Sg → Prop} (X : Cx p s m args meth c cX0_startersBefore 5 (some .int) RX0 wsX0_startersBefore D (tyL cB cI cZ) A) (hK4 : ∀ (x1 x2 x3 : Int32) (z : Sg), K4 x1 x2 x3 z → WW p l e rmX0_startersBefore s m args below meth c 5 D A (cW ad cB cI cZ) (QI below args s D (tyL cB cI cZ) (cW ad cB cI cZ) A post) z 4 [(0, .ref (ad 12)), (1, .int x1), (2, .int x2), (3, .int x3)] []) (x1 x2 x3 : Int32) (z : Sg) (hp : pX0_startersBefore_b58 K4 post x1 x2 x3 z) : WW p l e rmX0_startersBefore s m args below meth c 5 D A (cW ad cB cI cZ) (QI below args s D (tyL cB cI cZ) (cW ad cB cI cZ) A post) z 58 [(0, .ref (ad 12)), (1, .int x1), (2, .int x2), (3, .int x3)] [] := by
  unfold pX0_startersBefore_b58 at hp
  refine ww_iconst X (v := 0) dX0_startersBefore_58 (by decide) ?_
  exact wX0_startersBefore_b59 X hK4 x1 x2 x3 0 z hp
set_option maxHeartbeats 4000000 in
set_option maxRecDepth 100000 in
theorem wX0_startersBefore_b54 {p : Program} {l : Launch} {e : Env} {s : State} {m : MethodId} {args : Array Value} {below : List Frame} {meth : Method} {c : Code} {D : va_G} {A : Nat → Prop} {ad : Nat → Nat} {cB cI cZ : ClassId} {post : Int32 → Sg → Prop} {K4 : Int32 → Int32 → Int32 → Sg → Prop} (X : Cx p s m args meth c cX0_startersBefore 5 (some .int) RX0 wsX0_startersBefore D (tyL cB cI cZ) A) (hK4 : ∀ (x1 x2 x3 : Int32) (z : Sg), K4 x1 x2 x3 z → WW p l e rmX0_startersBefore s m args below meth c 5 D A (cW ad cB cI cZ) (QI below args s D (tyL cB cI cZ) (cW ad cB cI cZ) A post) z 4 [(0, .ref (ad 12)), (1, .int x1), (2, .int x2), (3, .int x3)] []) (x1 x2 x3 : Int32) (z : Sg) (hp : pX0_startersBefore_b54 K4 post x1 x2 x3 z) : WW p l e rmX0_startersBefore s m args below meth c 5 D A (cW ad cB cI cZ) (QI below args s D (tyL cB cI cZ) (cW ad cB cI cZ) A post) z 54 [(0, .ref (ad 12)), (1, .int x1), (2, .int x2), (3, .int x3)] [] := by
  unfold pX0_startersBefore_b54 at hp
  refine ww_iconst X (v := 1) dX0_startersBefore_54 (by decide) ?_
  refine ww_goto X (tgt := 59) dX0_startersBefore_55 (by decide) ?_
  exact wX0_startersBefore_b59 X hK4 x1 x2 x3 1 z hp
set_option maxHeartbeats 4000000 in
set_option maxRecDepth 100000 in
theorem wX0_startersBefore_b4 {p : Program} {l : Launch} {e : Env} {s : State} {m : MethodId} {args : Array Value} {below : List Frame} {meth : Method} {c : Code} {D : va_G} {A : Nat → Prop} {ad : Nat → Nat} {cB cI cZ : ClassId} {post : Int32 → Sg → Prop} {K4 : Int32 → Int32 → Int32 → Sg → Prop} (X : Cx p s m args meth c cX0_startersBefore 5 (some .int) RX0 wsX0_startersBefore D (tyL cB cI cZ) A) (hK4 : ∀ (x1 x2 x3 : Int32) (z : Sg), K4 x1 x2 x3 z → WW p l e rmX0_startersBefore s m args below meth c 5 D A (cW ad cB cI cZ) (QI below args s D (tyL cB cI cZ) (cW ad cB cI cZ) A post) z 4 [(0, .ref (ad 12)), (1, .int x1), (2, .int x2), (3, .int x3)] []) (x1 x2 x3 : Int32) (z : Sg) (hp : pX0_startersBefore_b4 K4 post x1 x2 x3 z) : WW p l e rmX0_startersBefore s m args below meth c 5 D A (cW ad cB cI cZ) (QI below args s D (tyL cB cI cZ) (cW ad cB cI cZ) A post) z 4 [(0, .ref (ad 12)), (1, .int x1), (2, .int x2), (3, .int x3)] [] := by
  unfold pX0_startersBefore_b4 at hp
  refine ww_iload_n X dX0_startersBefore_4 3 rfl ?_
  refine ww_bipush X (v := 24) dX0_startersBefore_5 (by decide) ?_
  refine ww_icmp_ge X (tgt := 80) dX0_startersBefore_7 (by decide) (fun h1 => ?_) (fun h1 => ?_)
  · have hp := hp.1 h1
    refine ww_iload_n X dX0_startersBefore_80 2 rfl ?_
    exact ww_iret X hp dX0_startersBefore_81
  · have hp := hp.2 h1
    refine ww_aload_n X dX0_startersBefore_10 0 rfl ?_
    refine ww_get X in_X0_startersBefore_X0 12 cg_12 rfl 1 (by decide) (X.wd 1 rfl) (v := .ref (ad 14)) rfl dX0_startersBefore_11 ?_
    refine ww_iload_n X dX0_startersBefore_14 3 rfl ?_
    obtain ⟨h2, hp⟩ := hp
    refine ww_zald X 14 2 cg_14 rfl (v := (gA z 9 x3)) h2 rfl dX0_startersBefore_15 ?_
    refine ww_if_eq X (tgt := 58) dX0_startersBefore_16 (by decide) (fun h3 => ?_) (fun h3 => ?_)
    · have hp := hp.1 h3
      exact wX0_startersBefore_b58 X hK4 x1 x2 x3 z hp
    · have hp := hp.2 h3
      refine ww_aload_n X dX0_startersBefore_19 0 rfl ?_
      refine ww_get X in_X0_startersBefore_X0 12 cg_12 rfl 0 (by decide) (X.wd 2 rfl) (v := .ref (ad 13)) rfl dX0_startersBefore_20 ?_
      refine ww_iload_n X dX0_startersBefore_23 3 rfl ?_
      obtain ⟨h4, hp⟩ := hp
      refine ww_iald X 13 1 cg_13 rfl (v := (gA z 8 x3)) h4 rfl dX0_startersBefore_24 ?_
      refine ww_aload_n X dX0_startersBefore_25 0 rfl ?_
      refine ww_get X in_X0_startersBefore_X0 12 cg_12 rfl 0 (by decide) (X.wd 2 rfl) (v := .ref (ad 13)) rfl dX0_startersBefore_26 ?_
      refine ww_iload_n X dX0_startersBefore_29 1 rfl ?_
      obtain ⟨h5, hp⟩ := hp
      refine ww_iald X 13 1 cg_13 rfl (v := (gA z 8 x1)) h5 rfl dX0_startersBefore_30 ?_
      refine ww_icmp_lt X (tgt := 54) dX0_startersBefore_31 (by decide) (fun h6 => ?_) (fun h6 => ?_)
      · have hp := hp.1 h6
        exact wX0_startersBefore_b54 X hK4 x1 x2 x3 z hp
      · have hp := hp.2 h6
        refine ww_aload_n X dX0_startersBefore_34 0 rfl ?_
        refine ww_get X in_X0_startersBefore_X0 12 cg_12 rfl 0 (by decide) (X.wd 2 rfl) (v := .ref (ad 13)) rfl dX0_startersBefore_35 ?_
        refine ww_iload_n X dX0_startersBefore_38 3 rfl ?_
        obtain ⟨h7, hp⟩ := hp
        refine ww_iald X 13 1 cg_13 rfl (v := (gA z 8 x3)) h7 rfl dX0_startersBefore_39 ?_
        refine ww_aload_n X dX0_startersBefore_40 0 rfl ?_
        refine ww_get X in_X0_startersBefore_X0 12 cg_12 rfl 0 (by decide) (X.wd 2 rfl) (v := .ref (ad 13)) rfl dX0_startersBefore_41 ?_
        refine ww_iload_n X dX0_startersBefore_44 1 rfl ?_
        obtain ⟨h8, hp⟩ := hp
        refine ww_iald X 13 1 cg_13 rfl (v := (gA z 8 x1)) h8 rfl dX0_startersBefore_45 ?_
        refine ww_icmp_ne X (tgt := 58) dX0_startersBefore_46 (by decide) (fun h9 => ?_) (fun h9 => ?_)
        · have hp := hp.1 h9
          exact wX0_startersBefore_b58 X hK4 x1 x2 x3 z hp
        · have hp := hp.2 h9
          refine ww_iload_n X dX0_startersBefore_49 3 rfl ?_
          refine ww_iload_n X dX0_startersBefore_50 1 rfl ?_
          refine ww_icmp_le X (tgt := 58) dX0_startersBefore_51 (by decide) (fun h10 => ?_) (fun h10 => ?_)
          · have hp := hp.1 h10
            exact wX0_startersBefore_b58 X hK4 x1 x2 x3 z hp
          · have hp := hp.2 h10
            exact wX0_startersBefore_b54 X hK4 x1 x2 x3 z hp
set_option maxHeartbeats 4000000 in
set_option maxRecDepth 100000 in
theorem wX0_startersBefore_l4 {p : Program} {l : Launch} {e : Env} {s : State} {m : MethodId} {args : Array Value} {below : List Frame} {meth : Method} {c : Code} {D : va_G} {A : Nat → Prop} {ad : Nat → Nat} {cB cI cZ : ClassId} {post : Int32 → Sg → Prop}  (X : Cx p s m args meth c cX0_startersBefore 5 (some .int) RX0 wsX0_startersBefore D (tyL cB cI cZ) A)  (x1 x2 x3 : Int32) (z : Sg) (hp : pX0_startersBefore_l4  post x1 x2 x3 z) : WW p l e rmX0_startersBefore s m args below meth c 5 D A (cW ad cB cI cZ) (QI below args s D (tyL cB cI cZ) (cW ad cB cI cZ) A post) z 4 [(0, .ref (ad 12)), (1, .int x1), (2, .int x2), (3, .int x3)] [] := by
  have key := lp_walk (F := (fun (K : Int32 × Int32 × Int32 → Sg → Prop) (a : Int32 × Int32 × Int32) (z : Sg) => pX0_startersBefore_b4 (fun (x1 x2 x3 : Int32) z => K (x1, x2, x3) z) post a.1 a.2.1 a.2.2 z)) (P := fun a z => WW p l e rmX0_startersBefore s m args below meth c 5 D A (cW ad cB cI cZ) (QI below args s D (tyL cB cI cZ) (cW ad cB cI cZ) A post) z 4 [(0, .ref (ad 12)), (1, .int a.1), (2, .int a.2.1), (3, .int a.2.2)] []) (fun K hK a z hp => wX0_startersBefore_b4 X (fun x1 x2 x3 z h => hK (x1, x2, x3) z h) a.1 a.2.1 a.2.2 z hp)
  exact key (x1, x2, x3) z hp
set_option maxHeartbeats 4000000 in
set_option maxRecDepth 100000 in
theorem kX0_startersBefore (l : Launch) (D : va_G) (ad : Nat → Nat) (cB cI cZ : ClassId) (a1 : Int32) (z : Sg) (post : Int32 → Sg → Prop) (hp : pX0_startersBefore a1 z post) : Ci l D (tyL cB cI cZ) (cW ad cB cI cZ) yX0_startersBefore wsX0_startersBefore rmX0_startersBefore [.ref (ad 12), .int a1] z post := by
  refine Ci.of (cc := cX0_startersBefore) (maxL := 5) (ret := (some .int)) (by decide) rfl (Nat.le_of_ble_eq_true rfl) ?_
  intro p e s m args below meth c A X
  have X : Cx p s m args meth c cX0_startersBefore 5 (some .int) RX0 wsX0_startersBefore D (tyL cB cI cZ) A := X
  show WW p l e rmX0_startersBefore s m args below meth c 5 D A (cW ad cB cI cZ) (QI below args s D (tyL cB cI cZ) (cW ad cB cI cZ) A post) z 0 [(0, .ref (ad 12)), (1, .int a1)] []
  unfold pX0_startersBefore at hp
  refine ww_iconst X (v := 0) dX0_startersBefore_0 (by decide) ?_
  refine ww_istore_n X (lv' := [(2, .int 0), (0, .ref (ad 12)), (1, .int a1)]) dX0_startersBefore_1 (by decide) rfl ?_
  refine ww_iconst X (v := 0) dX0_startersBefore_2 (by decide) ?_
  refine ww_istore_n X (lv' := [(3, .int 0), (2, .int 0), (0, .ref (ad 12)), (1, .int a1)]) dX0_startersBefore_3 (by decide) rfl ?_
  exact ww_sub (lv' := [(0, .ref (ad 12)), (1, .int a1), (2, .int 0), (3, .int 0)]) [2, 3, 1, 0] rfl (wX0_startersBefore_l4 X  a1 0 0 z hp)
set_option maxHeartbeats 4000000 in
set_option maxRecDepth 100000 in
theorem wX0_starterAt_b28 {p : Program} {l : Launch} {e : Env} {s : State} {m : MethodId} {args : Array Value} {below : List Frame} {meth : Method} {c : Code} {D : va_G} {A : Nat → Prop} {ad : Nat → Nat} {cB cI cZ : ClassId} {post : Int32 → Sg → Prop} {K2 : Int32 → Int32 → Sg → Prop} (X : Cx p s m args meth c cX0_starterAt 3 (some .int) RX0 wsX0_starterAt D (tyL cB cI cZ) A) (hK2 : ∀ (x1 x2 : Int32) (z : Sg), K2 x1 x2 z → WW p l e rmX0_starterAt s m args below meth c 3 D A (cW ad cB cI cZ) (QI below args s D (tyL cB cI cZ) (cW ad cB cI cZ) A post) z 2 [(0, .ref (ad 12)), (1, .int x1), (2, .int x2)] []) (x1 x2 : Int32) (z : Sg) (hp : pX0_starterAt_b28 K2 post x1 x2 z) : WW p l e rmX0_starterAt s m args below meth c 3 D A (cW ad cB cI cZ) (QI below args s D (tyL cB cI cZ) (cW ad cB cI cZ) A post) z 28 [(0, .ref (ad 12)), (1, .int x1), (2, .int x2)] [] := by
  unfold pX0_starterAt_b28 at hp
  refine ww_iinc X (v := (x2 + 1)) (lv' := [(2, .int (x2 + 1)), (0, .ref (ad 12)), (1, .int x1)]) dX0_starterAt_28 2 rfl rfl (by decide) rfl ?_
  refine ww_goto X (tgt := 2) dX0_starterAt_31 (by decide) ?_
  exact ww_sub (lv' := [(0, .ref (ad 12)), (1, .int x1), (2, .int (x2 + 1))]) [1, 2, 0] rfl (hK2 x1 (x2 + 1) z hp)
set_option maxHeartbeats 4000000 in
set_option maxRecDepth 100000 in
theorem wX0_starterAt_b2 {p : Program} {l : Launch} {e : Env} {s : State} {m : MethodId} {args : Array Value} {below : List Frame} {meth : Method} {c : Code} {D : va_G} {A : Nat → Prop} {ad : Nat → Nat} {cB cI cZ : ClassId} {post : Int32 → Sg → Prop} {K2 : Int32 → Int32 → Sg → Prop} (X : Cx p s m args meth c cX0_starterAt 3 (some .int) RX0 wsX0_starterAt D (tyL cB cI cZ) A) (hK2 : ∀ (x1 x2 : Int32) (z : Sg), K2 x1 x2 z → WW p l e rmX0_starterAt s m args below meth c 3 D A (cW ad cB cI cZ) (QI below args s D (tyL cB cI cZ) (cW ad cB cI cZ) A post) z 2 [(0, .ref (ad 12)), (1, .int x1), (2, .int x2)] []) (x1 x2 : Int32) (z : Sg) (hp : pX0_starterAt_b2 K2 post x1 x2 z) : WW p l e rmX0_starterAt s m args below meth c 3 D A (cW ad cB cI cZ) (QI below args s D (tyL cB cI cZ) (cW ad cB cI cZ) A post) z 2 [(0, .ref (ad 12)), (1, .int x1), (2, .int x2)] [] := by
  unfold pX0_starterAt_b2 at hp
  refine ww_iload_n X dX0_starterAt_2 2 rfl ?_
  refine ww_bipush X (v := 24) dX0_starterAt_3 (by decide) ?_
  refine ww_icmp_ge X (tgt := 34) dX0_starterAt_5 (by decide) (fun h1 => ?_) (fun h1 => ?_)
  · have hp := hp.1 h1
    refine ww_sipush X (v := (-10000)) dX0_starterAt_34 (by decide) ?_
    exact ww_iret X hp dX0_starterAt_37
  · have hp := hp.2 h1
    refine ww_aload_n X dX0_starterAt_8 0 rfl ?_
    refine ww_get X in_X0_starterAt_X0 12 cg_12 rfl 1 (by decide) (X.wd 1 rfl) (v := .ref (ad 14)) rfl dX0_starterAt_9 ?_
    refine ww_iload_n X dX0_starterAt_12 2 rfl ?_
    obtain ⟨h2, hp⟩ := hp
    refine ww_zald X 14 2 cg_14 rfl (v := (gA z 9 x2)) h2 rfl dX0_starterAt_13 ?_
    refine ww_if_eq X (tgt := 28) dX0_starterAt_14 (by decide) (fun h3 => ?_) (fun h3 => ?_)
    · have hp := hp.1 h3
      exact wX0_starterAt_b28 X hK2 x1 x2 z hp
    · have hp := hp.2 h3
      refine ww_aload_n X dX0_starterAt_17 0 rfl ?_
      refine ww_iload_n X dX0_starterAt_18 2 rfl ?_
      refine ww_callV_i X (As := [.int x2]) (rest := []) (kX0_startersBefore l D ad cB cI cZ x2 z _ hp) (cwV 1 X.hts gX0_starterAt_X0_startersBefore rfl rfl rfl hd_X0_startersBefore ⟨Nat.le_of_ble_eq_true rfl, Nat.le_of_ble_eq_true rfl⟩) 12 0 cg_12 rfl rfl rfl rfl (Nat.le_of_ble_eq_true rfl) dX0_starterAt_19 (fun r5 u4 hp => ?_)
      refine ww_iload_n X dX0_starterAt_22 1 rfl ?_
      refine ww_icmp_ne X (tgt := 28) dX0_starterAt_23 (by decide) (fun h6 => ?_) (fun h6 => ?_)
      · have hp := hp.1 h6
        exact wX0_starterAt_b28 X hK2 x1 x2 u4 hp
      · have hp := hp.2 h6
        refine ww_iload_n X dX0_starterAt_26 2 rfl ?_
        exact ww_iret X hp dX0_starterAt_27
set_option maxHeartbeats 4000000 in
set_option maxRecDepth 100000 in
theorem wX0_starterAt_l2 {p : Program} {l : Launch} {e : Env} {s : State} {m : MethodId} {args : Array Value} {below : List Frame} {meth : Method} {c : Code} {D : va_G} {A : Nat → Prop} {ad : Nat → Nat} {cB cI cZ : ClassId} {post : Int32 → Sg → Prop}  (X : Cx p s m args meth c cX0_starterAt 3 (some .int) RX0 wsX0_starterAt D (tyL cB cI cZ) A)  (x1 x2 : Int32) (z : Sg) (hp : pX0_starterAt_l2  post x1 x2 z) : WW p l e rmX0_starterAt s m args below meth c 3 D A (cW ad cB cI cZ) (QI below args s D (tyL cB cI cZ) (cW ad cB cI cZ) A post) z 2 [(0, .ref (ad 12)), (1, .int x1), (2, .int x2)] [] := by
  have key := lp_walk (F := (fun (K : Int32 × Int32 → Sg → Prop) (a : Int32 × Int32) (z : Sg) => pX0_starterAt_b2 (fun (x1 x2 : Int32) z => K (x1, x2) z) post a.1 a.2 z)) (P := fun a z => WW p l e rmX0_starterAt s m args below meth c 3 D A (cW ad cB cI cZ) (QI below args s D (tyL cB cI cZ) (cW ad cB cI cZ) A post) z 2 [(0, .ref (ad 12)), (1, .int a.1), (2, .int a.2)] []) (fun K hK a z hp => wX0_starterAt_b2 X (fun x1 x2 z h => hK (x1, x2) z h) a.1 a.2 z hp)
  exact key (x1, x2) z hp
set_option maxHeartbeats 4000000 in
set_option maxRecDepth 100000 in
theorem kX0_starterAt (l : Launch) (D : va_G) (ad : Nat → Nat) (cB cI cZ : ClassId) (a1 : Int32) (z : Sg) (post : Int32 → Sg → Prop) (hp : pX0_starterAt a1 z post) : Ci l D (tyL cB cI cZ) (cW ad cB cI cZ) yX0_starterAt wsX0_starterAt rmX0_starterAt [.ref (ad 12), .int a1] z post := by
  refine Ci.of (cc := cX0_starterAt) (maxL := 3) (ret := (some .int)) (by decide) rfl (Nat.le_of_ble_eq_true rfl) ?_
  intro p e s m args below meth c A X
  have X : Cx p s m args meth c cX0_starterAt 3 (some .int) RX0 wsX0_starterAt D (tyL cB cI cZ) A := X
  show WW p l e rmX0_starterAt s m args below meth c 3 D A (cW ad cB cI cZ) (QI below args s D (tyL cB cI cZ) (cW ad cB cI cZ) A post) z 0 [(0, .ref (ad 12)), (1, .int a1)] []
  unfold pX0_starterAt at hp
  refine ww_iconst X (v := 0) dX0_starterAt_0 (by decide) ?_
  refine ww_istore_n X (lv' := [(2, .int 0), (0, .ref (ad 12)), (1, .int a1)]) dX0_starterAt_1 (by decide) rfl ?_
  exact ww_sub (lv' := [(0, .ref (ad 12)), (1, .int a1), (2, .int 0)]) [1, 2, 0] rfl (wX0_starterAt_l2 X  a1 0 z hp)
