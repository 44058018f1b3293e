set_option maxHeartbeats 4000000 in
set_option maxRecDepth 100000 in
theorem wX4_tapeInt_b52 {p : Program} {l : Launch} {e : Env} {s : State} {m : MethodId} {args : Array Value} {below : List Frame} {meth : Method} {c : Code} {D : va_G} {A : Nat → Prop} {ad : Nat → Nat} {cB cI cZ : ClassId} {post : Sg → Prop} {K3 : Int32 → Int32 → Sg → Prop} (X : Cx p s m args meth c cX4_tapeInt 3 none RX4 wsX4_tapeInt D (tyL cB cI cZ) A) (hK3 : ∀ (x1 x2 : Int32) (z : Sg), K3 x1 x2 z → WW p l e rmX4_tapeInt s m args below meth c 3 D A (cW ad cB cI cZ) (QV below args s D (tyL cB cI cZ) (cW ad cB cI cZ) A post) z 3 [(0, .ref (ad 0)), (1, .int x1), (2, .int x2)] []) (x1 x2 : Int32) (z : Sg) (hp : pX4_tapeInt_b52 K3 post x1 x2 z) : WW p l e rmX4_tapeInt s m args below meth c 3 D A (cW ad cB cI cZ) (QV below args s D (tyL cB cI cZ) (cW ad cB cI cZ) A post) z 52 [(0, .ref (ad 0)), (1, .int x1), (2, .int x2)] [] := by
  unfold pX4_tapeInt_b52 at hp
  refine ww_iinc X (v := (x2 + (-8))) (lv' := [(2, .int (x2 + (-8))), (0, .ref (ad 0)), (1, .int x1)]) dX4_tapeInt_52 2 rfl rfl (by decide) rfl ?_
  refine ww_goto X (tgt := 3) dX4_tapeInt_55 (by decide) ?_
  exact ww_sub (lv' := [(0, .ref (ad 0)), (1, .int x1), (2, .int (x2 + (-8)))]) [1, 2, 0] rfl (hK3 x1 (x2 + (-8)) z hp)
set_option maxHeartbeats 4000000 in
set_option maxRecDepth 100000 in
theorem wX4_tapeInt_b3 {p : Program} {l : Launch} {e : Env} {s : State} {m : MethodId} {args : Array Value} {below : List Frame} {meth : Method} {c : Code} {D : va_G} {A : Nat → Prop} {ad : Nat → Nat} {cB cI cZ : ClassId} {post : Sg → Prop} {K3 : Int32 → Int32 → Sg → Prop} (X : Cx p s m args meth c cX4_tapeInt 3 none RX4 wsX4_tapeInt D (tyL cB cI cZ) A) (hK3 : ∀ (x1 x2 : Int32) (z : Sg), K3 x1 x2 z → WW p l e rmX4_tapeInt s m args below meth c 3 D A (cW ad cB cI cZ) (QV below args s D (tyL cB cI cZ) (cW ad cB cI cZ) A post) z 3 [(0, .ref (ad 0)), (1, .int x1), (2, .int x2)] []) (x1 x2 : Int32) (z : Sg) (hp : pX4_tapeInt_b3 K3 post x1 x2 z) : WW p l e rmX4_tapeInt s m args below meth c 3 D A (cW ad cB cI cZ) (QV below args s D (tyL cB cI cZ) (cW ad cB cI cZ) A post) z 3 [(0, .ref (ad 0)), (1, .int x1), (2, .int x2)] [] := by
  unfold pX4_tapeInt_b3 at hp
  refine ww_iload_n X dX4_tapeInt_3 2 rfl ?_
  refine ww_if_lt X (tgt := 58) dX4_tapeInt_4 (by decide) (fun h1 => ?_) (fun h1 => ?_)
  · have hp := hp.1 h1
    exact ww_vret X hp dX4_tapeInt_58
  · have hp := hp.2 h1
    refine ww_aload_n X dX4_tapeInt_7 0 rfl ?_
    refine ww_get X in_X4_tapeInt_X4 0 cg_0 rfl 1 (by decide) (X.wd 1 rfl) (v := .int (z.1 0)) rfl dX4_tapeInt_8 ?_
    refine ww_if_lt X (tgt := 52) dX4_tapeInt_11 (by decide) (fun h2 => ?_) (fun h2 => ?_)
    · have hp := hp.1 h2
      exact wX4_tapeInt_b52 X hK3 x1 x2 z hp
    · have hp := hp.2 h2
      refine ww_aload_n X dX4_tapeInt_14 0 rfl ?_
      refine ww_get X in_X4_tapeInt_X4 0 cg_0 rfl 1 (by decide) (X.wd 1 rfl) (v := .int (z.1 0)) rfl dX4_tapeInt_15 ?_
      refine ww_aload_n X dX4_tapeInt_18 0 rfl ?_
      refine ww_get X in_X4_tapeInt_X4 0 cg_0 rfl 0 (by decide) (X.wd 2 rfl) (v := .ref (ad 1)) rfl dX4_tapeInt_19 ?_
      refine ww_alen X 1 1 cg_1 rfl (v := 60) rfl dX4_tapeInt_22 ?_
      refine ww_icmp_ge X (tgt := 52) dX4_tapeInt_23 (by decide) (fun h3 => ?_) (fun h3 => ?_)
      · have hp := hp.1 h3
        exact wX4_tapeInt_b52 X hK3 x1 x2 z hp
      · have hp := hp.2 h3
        refine ww_aload_n X dX4_tapeInt_26 0 rfl ?_
        refine ww_get X in_X4_tapeInt_X4 0 cg_0 rfl 0 (by decide) (X.wd 2 rfl) (v := .ref (ad 1)) rfl dX4_tapeInt_27 ?_
        refine ww_aload_n X dX4_tapeInt_30 0 rfl ?_
        refine ww_get X in_X4_tapeInt_X4 0 cg_0 rfl 1 (by decide) (X.wd 1 rfl) (v := .int (z.1 0)) rfl dX4_tapeInt_31 ?_
        refine ww_iload_n X dX4_tapeInt_34 1 rfl ?_
        refine ww_iload_n X dX4_tapeInt_35 2 rfl ?_
        refine ww_iushr X dX4_tapeInt_36 ?_
        refine ww_sipush X (v := 255) dX4_tapeInt_37 (by decide) ?_
        refine ww_iand X dX4_tapeInt_40 ?_
        refine ww_top (fun v5 hv5 => ?_)
        have hp := hp v5 hv5
        obtain ⟨h4, hp⟩ := hp
        refine ww_iast X 1 1 cg_1 rfl (sg' := (sA z 0 (z.1 0) v5)) h4 ca_1 dX4_tapeInt_41 ?_
        refine ww_aload_n X dX4_tapeInt_42 0 rfl ?_
        refine ww_dup X dX4_tapeInt_43 rfl ?_
        refine ww_get X in_X4_tapeInt_X4 0 cg_0 rfl 1 (by decide) (X.wd 1 rfl) (v := .int (z.1 0)) rfl dX4_tapeInt_44 ?_
        refine ww_iconst X (v := 1) dX4_tapeInt_47 (by decide) ?_
        refine ww_iadd X dX4_tapeInt_48 ?_
        refine ww_put X in_X4_tapeInt_X4 tyX4 tyX4_ok nmX4 0 cg_0 rfl 1 (by decide) (X.wd 1 rfl) rfl pd_X4_1 (Nat.le_of_ble_eq_true rfl) (sg' := (sS (sA z 0 (z.1 0) v5) 0 ((z.1 0) + 1))) cs_0 dX4_tapeInt_49 ?_
        exact wX4_tapeInt_b52 X hK3 x1 x2 (sS (sA z 0 (z.1 0) v5) 0 ((z.1 0) + 1)) hp
set_option maxHeartbeats 4000000 in
set_option maxRecDepth 100000 in
theorem wX4_tapeInt_l3 {p : Program} {l : Launch} {e : Env} {s : State} {m : MethodId} {args : Array Value} {below : List Frame} {meth : Method} {c : Code} {D : va_G} {A : Nat → Prop} {ad : Nat → Nat} {cB cI cZ : ClassId} {post : Sg → Prop}  (X : Cx p s m args meth c cX4_tapeInt 3 none RX4 wsX4_tapeInt D (tyL cB cI cZ) A)  (x1 x2 : Int32) (z : Sg) (hp : pX4_tapeInt_l3  post x1 x2 z) : WW p l e rmX4_tapeInt s m args below meth c 3 D A (cW ad cB cI cZ) (QV below args s D (tyL cB cI cZ) (cW ad cB cI cZ) A post) z 3 [(0, .ref (ad 0)), (1, .int x1), (2, .int x2)] [] := by
  have key := lp_walk (F := (fun (K : Int32 × Int32 → Sg → Prop) (a : Int32 × Int32) (z : Sg) => pX4_tapeInt_b3 (fun (x1 x2 : Int32) z => K (x1, x2) z) post a.1 a.2 z)) (P := fun a z => WW p l e rmX4_tapeInt s m args below meth c 3 D A (cW ad cB cI cZ) (QV below args s D (tyL cB cI cZ) (cW ad cB cI cZ) A post) z 3 [(0, .ref (ad 0)), (1, .int a.1), (2, .int a.2)] []) (fun K hK a z hp => wX4_tapeInt_b3 X (fun x1 x2 z h => hK (x1, x2) z h) a.1 a.2 z hp)
  exact key (x1, x2) z hp
set_option maxHeartbeats 4000000 in
set_option maxRecDepth 100000 in
theorem kX4_tapeInt (l : Launch) (D : va_G) (ad : Nat → Nat) (cB cI cZ : ClassId) (a1 : Int32) (z : Sg) (post : Sg → Prop) (hp : pX4_tapeInt a1 z post) : Cv l D (tyL cB cI cZ) (cW ad cB cI cZ) yX4_tapeInt wsX4_tapeInt rmX4_tapeInt [.ref (ad 0), .int a1] z post := by
  refine Cv.of (cc := cX4_tapeInt) (maxL := 3) (ret := none) (by decide) rfl (Nat.le_of_ble_eq_true rfl) ?_
  intro p e s m args below meth c A X
  have X : Cx p s m args meth c cX4_tapeInt 3 none RX4 wsX4_tapeInt D (tyL cB cI cZ) A := X
  show WW p l e rmX4_tapeInt s m args below meth c 3 D A (cW ad cB cI cZ) (QV below args s D (tyL cB cI cZ) (cW ad cB cI cZ) A post) z 0 [(0, .ref (ad 0)), (1, .int a1)] []
  unfold pX4_tapeInt at hp
  refine ww_bipush X (v := 24) dX4_tapeInt_0 (by decide) ?_
  refine ww_istore_n X (lv' := [(2, .int 24), (0, .ref (ad 0)), (1, .int a1)]) dX4_tapeInt_2 (by decide) rfl ?_
  exact ww_sub (lv' := [(0, .ref (ad 0)), (1, .int a1), (2, .int 24)]) [1, 2, 0] rfl (wX4_tapeInt_l3 X  a1 24 z hp)
set_option maxHeartbeats 4000000 in
set_option maxRecDepth 100000 in
theorem kX4_feed (l : Launch) (D : va_G) (ad : Nat → Nat) (cB cI cZ : ClassId) (a1 a2 a3 a4 a5 : Int32) (z : Sg) (post : Int32 → Sg → Prop) (hp : pX4_feed a1 a2 a3 a4 a5 z post) : Ci l D (tyL cB cI cZ) (cW ad cB cI cZ) yX4_feed wsX4_feed rmX4_feed [.ref (ad 0), .int a1, .int a2, .int a3, .int a4, .int a5] z post := by
  refine Ci.of (cc := cX4_feed) (maxL := 6) (ret := (some .int)) (by decide) rfl (Nat.le_of_ble_eq_true rfl) ?_
  intro p e s m args below meth c A X
  have X : Cx p s m args meth c cX4_feed 6 (some .int) RX4 wsX4_feed D (tyL cB cI cZ) A := X
  show WW p l e rmX4_feed s m args below meth c 6 D A (cW ad cB cI cZ) (QI below args s D (tyL cB cI cZ) (cW ad cB cI cZ) A post) z 0 [(0, .ref (ad 0)), (1, .int a1), (2, .int a2), (3, .int a3), (4, .int a4), (5, .int a5)] []
  unfold pX4_feed at hp
  refine ww_aload_n X dX4_feed_0 0 rfl ?_
  refine ww_get X in_X4_feed_X4 0 cg_0 rfl 1 (by decide) (X.wd 1 rfl) (v := .int (z.1 0)) rfl dX4_feed_1 ?_
  refine ww_bipush X (v := 20) dX4_feed_4 (by decide) ?_
  refine ww_iadd X dX4_feed_6 ?_
  refine ww_bipush X (v := 60) dX4_feed_7 (by decide) ?_
  refine ww_icmp_le X (tgt := 16) dX4_feed_9 (by decide) (fun h1 => ?_) (fun h1 => ?_)
  · have hp := hp.1 h1
    refine ww_aload_n X dX4_feed_16 0 rfl ?_
    refine ww_iload_n X dX4_feed_17 1 rfl ?_
    refine ww_callV_v X (As := [.int a1]) (rest := []) (kX4_tapeInt l D ad cB cI cZ a1 z _ hp) (cwV 1 X.hts gX4_feed_X4_tapeInt rfl rfl rfl hd_X4_tapeInt ⟨Nat.le_of_ble_eq_true rfl, Nat.le_of_ble_eq_true rfl⟩) 0 4 cg_0 rfl rfl rfl rfl (Nat.le_of_ble_eq_true rfl) dX4_feed_18 (fun u2 hp => ?_)
    refine ww_aload_n X dX4_feed_21 0 rfl ?_
    refine ww_iload_n X dX4_feed_22 2 rfl ?_
    refine ww_callV_v X (As := [.int a2]) (rest := []) (kX4_tapeInt l D ad cB cI cZ a2 u2 _ hp) (cwV 1 X.hts gX4_feed_X4_tapeInt rfl rfl rfl hd_X4_tapeInt ⟨Nat.le_of_ble_eq_true rfl, Nat.le_of_ble_eq_true rfl⟩) 0 4 cg_0 rfl rfl rfl rfl (Nat.le_of_ble_eq_true rfl) dX4_feed_23 (fun u4 hp => ?_)
    refine ww_aload_n X dX4_feed_26 0 rfl ?_
    refine ww_iload_n X dX4_feed_27 3 rfl ?_
    refine ww_callV_v X (As := [.int a3]) (rest := []) (kX4_tapeInt l D ad cB cI cZ a3 u4 _ hp) (cwV 1 X.hts gX4_feed_X4_tapeInt rfl rfl rfl hd_X4_tapeInt ⟨Nat.le_of_ble_eq_true rfl, Nat.le_of_ble_eq_true rfl⟩) 0 4 cg_0 rfl rfl rfl rfl (Nat.le_of_ble_eq_true rfl) dX4_feed_28 (fun u6 hp => ?_)
    refine ww_aload_n X dX4_feed_31 0 rfl ?_
    refine ww_iload X dX4_feed_32 4 rfl ?_
    refine ww_callV_v X (As := [.int a4]) (rest := []) (kX4_tapeInt l D ad cB cI cZ a4 u6 _ hp) (cwV 1 X.hts gX4_feed_X4_tapeInt rfl rfl rfl hd_X4_tapeInt ⟨Nat.le_of_ble_eq_true rfl, Nat.le_of_ble_eq_true rfl⟩) 0 4 cg_0 rfl rfl rfl rfl (Nat.le_of_ble_eq_true rfl) dX4_feed_34 (fun u8 hp => ?_)
    refine ww_aload_n X dX4_feed_37 0 rfl ?_
    refine ww_iload X dX4_feed_38 5 rfl ?_
    refine ww_callV_v X (As := [.int a5]) (rest := []) (kX4_tapeInt l D ad cB cI cZ a5 u8 _ hp) (cwV 1 X.hts gX4_feed_X4_tapeInt rfl rfl rfl hd_X4_tapeInt ⟨Nat.le_of_ble_eq_true rfl, Nat.le_of_ble_eq_true rfl⟩) 0 4 cg_0 rfl rfl rfl rfl (Nat.le_of_ble_eq_true rfl) dX4_feed_40 (fun u10 hp => ?_)
    refine ww_aload_n X dX4_feed_43 0 rfl ?_
    refine ww_get X in_X4_feed_X4 0 cg_0 rfl 1 (by decide) (X.wd 1 rfl) (v := .int (u10.1 0)) rfl dX4_feed_44 ?_
    exact ww_iret X hp dX4_feed_47
  · have hp := hp.2 h1
    refine ww_sipush X (v := (-10000)) dX4_feed_12 (by decide) ?_
    exact ww_iret X hp dX4_feed_15
set_option maxHeartbeats 4000000 in
set_option maxRecDepth 100000 in
theorem wX4_rules_b12 {p : Program} {l : Launch} {e : Env} {s : State} {m : MethodId} {args : Array Value} {below : List Frame} {meth : Method} {c : Code} {D : va_G} {A : Nat → Prop} {ad : Nat → Nat} {cB cI cZ : ClassId} {post : Int32 → Sg → Prop}  (X : Cx p s m args meth c cX4_rules 2 (some .int) RX4 wsX4_rules D (tyL cB cI cZ) A)  (z : Sg) (hp : pX4_rules_b12  post  z) : WW p l e rmX4_rules s m args below meth c 2 D A (cW ad cB cI cZ) (QI below args s D (tyL cB cI cZ) (cW ad cB cI cZ) A post) z 12 [(0, .ref (ad 0))] [] := by
  unfold pX4_rules_b12 at hp
  refine ww_sipush X (v := (-10000)) dX4_rules_12 (by decide) ?_
  exact ww_iret X hp dX4_rules_15
set_option maxHeartbeats 4000000 in
set_option maxRecDepth 100000 in
theorem kX4_rules (l : Launch) (D : va_G) (ad : Nat → Nat) (cB cI cZ : ClassId) (a1 : Int32) (z : Sg) (post : Int32 → Sg → Prop) (hp : pX4_rules a1 z post) : Ci l D (tyL cB cI cZ) (cW ad cB cI cZ) yX4_rules wsX4_rules rmX4_rules [.ref (ad 0), .int a1] z post := by
  refine Ci.of (cc := cX4_rules) (maxL := 2) (ret := (some .int)) (by decide) rfl (Nat.le_of_ble_eq_true rfl) ?_
  intro p e s m args below meth c A X
  have X : Cx p s m args meth c cX4_rules 2 (some .int) RX4 wsX4_rules D (tyL cB cI cZ) A := X
  show WW p l e rmX4_rules s m args below meth c 2 D A (cW ad cB cI cZ) (QI below args s D (tyL cB cI cZ) (cW ad cB cI cZ) A post) z 0 [(0, .ref (ad 0)), (1, .int a1)] []
  unfold pX4_rules at hp
  refine ww_iload_n X dX4_rules_0 1 rfl ?_
  refine ww_if_lt X (tgt := 12) dX4_rules_1 (by decide) (fun h1 => ?_) (fun h1 => ?_)
  · have hp := hp.1 h1
    exact ww_sub (lv' := [(0, .ref (ad 0))]) [0] rfl (wX4_rules_b12 X   z hp)
  · have hp := hp.2 h1
    refine ww_iload_n X dX4_rules_4 1 rfl ?_
    refine ww_aload_n X dX4_rules_5 0 rfl ?_
    refine ww_get X in_X4_rules_X4 0 cg_0 rfl 1 (by decide) (X.wd 1 rfl) (v := .int (z.1 0)) rfl dX4_rules_6 ?_
    refine ww_icmp_le X (tgt := 16) dX4_rules_9 (by decide) (fun h2 => ?_) (fun h2 => ?_)
    · have hp := hp.1 h2
      refine ww_aload_n X dX4_rules_16 0 rfl ?_
      refine ww_iconst X (v := 0) dX4_rules_17 (by decide) ?_
      refine ww_put X in_X4_rules_X4 tyX4 tyX4_ok nmX4 0 cg_0 rfl 1 (by decide) (X.wd 1 rfl) rfl pd_X4_1 (Nat.le_of_ble_eq_true rfl) (sg' := (sS z 0 0)) cs_0 dX4_rules_18 ?_
      refine ww_aload_n X dX4_rules_21 0 rfl ?_
      refine ww_get X in_X4_rules_X4 0 cg_0 rfl 2 (by decide) (X.wd 2 rfl) (v := .ref (ad 2)) rfl dX4_rules_22 ?_
      refine ww_getN X in_X4_rules_X3 2 cg_2 rfl 0 (by decide) (X.nest 8 rfl) (v := .ref (ad 3)) rfl dX4_rules_25 ?_
      refine ww_aload_n X dX4_rules_28 0 rfl ?_
      refine ww_get X in_X4_rules_X4 0 cg_0 rfl 0 (by decide) (X.wd 3 rfl) (v := .ref (ad 1)) rfl dX4_rules_29 ?_
      refine ww_iload_n X dX4_rules_32 1 rfl ?_
      refine ww_callN_i X (As := [.ref (ad 1), .int a1]) (rest := []) (kX2_read l D ad cB cI cZ a1 (sS z 0 0) _ hp) (⟨va_cnB 2 X.hts gX4_rules_X2_read_n54 rfl rfl rfl (X.hE.2 _ (List.mem_of_getElem? (i := 34) rfl)) (X.wd 5 rfl) hn_X2_read ⟨Nat.le_of_ble_eq_true rfl, Nat.le_of_ble_eq_true rfl⟩, (X.wd 4 rfl), (X.wd 6 rfl)⟩) 3 2 cg_3 rfl rfl rfl rfl (Nat.le_of_ble_eq_true rfl) dX4_rules_33 (fun r4 u3 hp => ?_)
      exact ww_iret X hp dX4_rules_36
    · have hp := hp.2 h2
      exact ww_sub (lv' := [(0, .ref (ad 0))]) [0] rfl (wX4_rules_b12 X   z hp)
set_option maxHeartbeats 4000000 in
set_option maxRecDepth 100000 in
theorem wX4_rule_b24 {p : Program} {l : Launch} {e : Env} {s : State} {m : MethodId} {args : Array Value} {below : List Frame} {meth : Method} {c : Code} {D : va_G} {A : Nat → Prop} {ad : Nat → Nat} {cB cI cZ : ClassId} {post : Int32 → Sg → Prop}  (X : Cx p s m args meth c cX4_rule 2 (some .int) RX4 wsX4_rule D (tyL cB cI cZ) A)  (y0 : Int32) (z : Sg) (hp : pX4_rule_b24  post y0 z) : WW p l e rmX4_rule s m args below meth c 2 D A (cW ad cB cI cZ) (QI below args s D (tyL cB cI cZ) (cW ad cB cI cZ) A post) z 24 [(0, .ref (ad 0))] [.int y0] := by
  unfold pX4_rule_b24 at hp
  exact ww_iret X hp dX4_rule_24
set_option maxHeartbeats 4000000 in
set_option maxRecDepth 100000 in
theorem kX4_rule (l : Launch) (D : va_G) (ad : Nat → Nat) (cB cI cZ : ClassId) (a1 : Int32) (z : Sg) (post : Int32 → Sg → Prop) (hp : pX4_rule a1 z post) : Ci l D (tyL cB cI cZ) (cW ad cB cI cZ) yX4_rule wsX4_rule rmX4_rule [.ref (ad 0), .int a1] z post := by
  refine Ci.of (cc := cX4_rule) (maxL := 2) (ret := (some .int)) (by decide) rfl (Nat.le_of_ble_eq_true rfl) ?_
  intro p e s m args below meth c A X
  have X : Cx p s m args meth c cX4_rule 2 (some .int) RX4 wsX4_rule D (tyL cB cI cZ) A := X
  show WW p l e rmX4_rule s m args below meth c 2 D A (cW ad cB cI cZ) (QI below args s D (tyL cB cI cZ) (cW ad cB cI cZ) A post) z 0 [(0, .ref (ad 0)), (1, .int a1)] []
  unfold pX4_rule at hp
  refine ww_iload_n X dX4_rule_0 1 rfl ?_
  refine ww_callT_i X (As := [.int a1]) (rest := []) (kX2_isLetter l D ad cB cI cZ a1 z _ hp) (⟨va_cnB 1 X.hts gX4_rule_X2_isLetter_n60 rfl rfl rfl (X.hE.2 _ (List.mem_of_getElem? (i := 35) rfl)) (X.wd 3 rfl) hn_X2_isLetter ⟨Nat.le_of_ble_eq_true rfl, Nat.le_of_ble_eq_true rfl⟩, (X.wd 2 rfl), trivial⟩) rfl rfl (Nat.le_of_ble_eq_true rfl) dX4_rule_1 (fun r2 u1 hp => ?_)
  refine ww_if_eq X (tgt := 21) dX4_rule_4 (by decide) (fun h3 => ?_) (fun h3 => ?_)
  · have hp := hp.1 h3
    refine ww_sipush X (v := (-10000)) dX4_rule_21 (by decide) ?_
    exact ww_sub (lv' := [(0, .ref (ad 0))]) [0] rfl (wX4_rule_b24 X  (-10000) u1 hp)
  · have hp := hp.2 h3
    refine ww_aload_n X dX4_rule_7 0 rfl ?_
    refine ww_get X in_X4_rule_X4 0 cg_0 rfl 2 (by decide) (X.wd 1 rfl) (v := .ref (ad 2)) rfl dX4_rule_8 ?_
    refine ww_getN X in_X4_rule_X3 2 cg_2 rfl 0 (by decide) (X.nest 8 rfl) (v := .ref (ad 3)) rfl dX4_rule_11 ?_
    refine ww_iload_n X dX4_rule_14 1 rfl ?_
    refine ww_callN_i X (As := [.int a1]) (rest := []) (kX2_number l D ad cB cI cZ a1 u1 _ hp) (⟨va_cnB 1 X.hts gX4_rule_X2_number_n64 rfl rfl rfl (X.hE.2 _ (List.mem_of_getElem? (i := 36) rfl)) (X.wd 3 rfl) hn_X2_number ⟨Nat.le_of_ble_eq_true rfl, Nat.le_of_ble_eq_true rfl⟩, (X.wd 5 rfl), (X.wd 6 rfl)⟩) 3 2 cg_3 rfl rfl rfl rfl (Nat.le_of_ble_eq_true rfl) dX4_rule_15 (fun r5 u4 hp => ?_)
    refine ww_goto X (tgt := 24) dX4_rule_18 (by decide) ?_
    exact ww_sub (lv' := [(0, .ref (ad 0))]) [0] rfl (wX4_rule_b24 X  r5 u4 hp)
set_option maxHeartbeats 4000000 in
set_option maxRecDepth 100000 in
theorem wX4_isTeam_b15 {p : Program} {l : Launch} {e : Env} {s : State} {m : MethodId} {args : Array Value} {below : List Frame} {meth : Method} {c : Code} {D : va_G} {A : Nat → Prop} {ad : Nat → Nat} {cB cI cZ : ClassId} {post : Int32 → Sg → Prop}  (X : Cx p s m args meth c cX4_isTeam 2 (some .boolean) RX4 wsX4_isTeam D (tyL cB cI cZ) A)  (y0 : Int32) (z : Sg) (hp : pX4_isTeam_b15  post y0 z) : WW p l e rmX4_isTeam s m args below meth c 2 D A (cW ad cB cI cZ) (QI below args s D (tyL cB cI cZ) (cW ad cB cI cZ) A post) z 15 [(0, .ref (ad 0))] [.int y0] := by
  unfold pX4_isTeam_b15 at hp
  exact ww_zret X hp.1 hp.2 dX4_isTeam_15
set_option maxHeartbeats 4000000 in
set_option maxRecDepth 100000 in
theorem wX4_isTeam_b14 {p : Program} {l : Launch} {e : Env} {s : State} {m : MethodId} {args : Array Value} {below : List Frame} {meth : Method} {c : Code} {D : va_G} {A : Nat → Prop} {ad : Nat → Nat} {cB cI cZ : ClassId} {post : Int32 → Sg → Prop}  (X : Cx p s m args meth c cX4_isTeam 2 (some .boolean) RX4 wsX4_isTeam D (tyL cB cI cZ) A)  (z : Sg) (hp : pX4_isTeam_b14  post  z) : WW p l e rmX4_isTeam s m args below meth c 2 D A (cW ad cB cI cZ) (QI below args s D (tyL cB cI cZ) (cW ad cB cI cZ) A post) z 14 [(0, .ref (ad 0))] [] := by
  unfold pX4_isTeam_b14 at hp
  refine ww_iconst X (v := 0) dX4_isTeam_14 (by decide) ?_
  exact wX4_isTeam_b15 X  0 z hp
set_option maxHeartbeats 4000000 in
set_option maxRecDepth 100000 in
theorem kX4_isTeam (l : Launch) (D : va_G) (ad : Nat → Nat) (cB cI cZ : ClassId) (a1 : Int32) (z : Sg) (post : Int32 → Sg → Prop) (hp : pX4_isTeam a1 z post) : Ci l D (tyL cB cI cZ) (cW ad cB cI cZ) yX4_isTeam wsX4_isTeam rmX4_isTeam [.ref (ad 0), .int a1] z post := by
  refine Ci.of (cc := cX4_isTeam) (maxL := 2) (ret := (some .boolean)) (by decide) rfl (Nat.le_of_ble_eq_true rfl) ?_
  intro p e s m args below meth c A X
  have X : Cx p s m args meth c cX4_isTeam 2 (some .boolean) RX4 wsX4_isTeam D (tyL cB cI cZ) A := X
  show WW p l e rmX4_isTeam s m args below meth c 2 D A (cW ad cB cI cZ) (QI below args s D (tyL cB cI cZ) (cW ad cB cI cZ) A post) z 0 [(0, .ref (ad 0)), (1, .int a1)] []
  unfold pX4_isTeam at hp
  refine ww_iload_n X dX4_isTeam_0 1 rfl ?_
  refine ww_if_lt X (tgt := 14) dX4_isTeam_1 (by decide) (fun h1 => ?_) (fun h1 => ?_)
  · have hp := hp.1 h1
    exact ww_sub (lv' := [(0, .ref (ad 0))]) [0] rfl (wX4_isTeam_b14 X   z hp)
  · have hp := hp.2 h1
    refine ww_iload_n X dX4_isTeam_4 1 rfl ?_
    refine ww_bipush X (v := 6) dX4_isTeam_5 (by decide) ?_
    refine ww_icmp_ge X (tgt := 14) dX4_isTeam_7 (by decide) (fun h2 => ?_) (fun h2 => ?_)
    · have hp := hp.1 h2
      exact ww_sub (lv' := [(0, .ref (ad 0))]) [0] rfl (wX4_isTeam_b14 X   z hp)
    · have hp := hp.2 h2
      refine ww_iconst X (v := 1) dX4_isTeam_10 (by decide) ?_
      refine ww_goto X (tgt := 15) dX4_isTeam_11 (by decide) ?_
      exact ww_sub (lv' := [(0, .ref (ad 0))]) [0] rfl (wX4_isTeam_b15 X  1 z hp)
set_option maxHeartbeats 4000000 in
set_option maxRecDepth 100000 in
theorem wX4_jumper_b24 {p : Program} {l : Launch} {e : Env} {s : State} {m : MethodId} {args : Array Value} {below : List Frame} {meth : Method} {c : Code} {D : va_G} {A : Nat → Prop} {ad : Nat → Nat} {cB cI cZ : ClassId} {post : Int32 → Sg → Prop}  (X : Cx p s m args meth c cX4_jumper 3 (some .int) RX4 wsX4_jumper D (tyL cB cI cZ) A)  (z : Sg) (hp : pX4_jumper_b24  post  z) : WW p l e rmX4_jumper s m args below meth c 3 D A (cW ad cB cI cZ) (QI below args s D (tyL cB cI cZ) (cW ad cB cI cZ) A post) z 24 [(0, .ref (ad 0))] [] := by
  unfold pX4_jumper_b24 at hp
  refine ww_sipush X (v := (-10000)) dX4_jumper_24 (by decide) ?_
  exact ww_iret X hp dX4_jumper_27
set_option maxHeartbeats 4000000 in
set_option maxRecDepth 100000 in
theorem kX4_jumper (l : Launch) (D : va_G) (ad : Nat → Nat) (cB cI cZ : ClassId) (a1 : Int32) (z : Sg) (post : Int32 → Sg → Prop) (hp : pX4_jumper a1 z post) : Ci l D (tyL cB cI cZ) (cW ad cB cI cZ) yX4_jumper wsX4_jumper rmX4_jumper [.ref (ad 0), .int a1] z post := by
  refine Ci.of (cc := cX4_jumper) (maxL := 3) (ret := (some .int)) (by decide) rfl (Nat.le_of_ble_eq_true rfl) ?_
  intro p e s m args below meth c A X
  have X : Cx p s m args meth c cX4_jumper 3 (some .int) RX4 wsX4_jumper D (tyL cB cI cZ) A := X
  show WW p l e rmX4_jumper s m args below meth c 3 D A (cW ad cB cI cZ) (QI below args s D (tyL cB cI cZ) (cW ad cB cI cZ) A post) z 0 [(0, .ref (ad 0)), (1, .int a1)] []
  unfold pX4_jumper at hp
  refine ww_aload_n X dX4_jumper_0 0 rfl ?_
  refine ww_iload_n X dX4_jumper_1 1 rfl ?_
  refine ww_callV_i X (As := [.int a1]) (rest := []) (kX4_isTeam l D ad cB cI cZ a1 z _ hp) (cwV 1 X.hts gX4_jumper_X4_isTeam rfl rfl rfl hd_X4_isTeam ⟨Nat.le_of_ble_eq_true rfl, Nat.le_of_ble_eq_true rfl⟩) 0 4 cg_0 rfl rfl rfl rfl (Nat.le_of_ble_eq_true rfl) dX4_jumper_2 (fun r2 u1 hp => ?_)
  refine ww_if_eq X (tgt := 24) dX4_jumper_5 (by decide) (fun h3 => ?_) (fun h3 => ?_)
  · have hp := hp.1 h3
    exact ww_sub (lv' := [(0, .ref (ad 0))]) [0] rfl (wX4_jumper_b24 X   u1 hp)
  · have hp := hp.2 h3
    refine ww_aload_n X dX4_jumper_8 0 rfl ?_
    refine ww_get X in_X4_jumper_X4 0 cg_0 rfl 7 (by decide) (X.wd 1 rfl) (v := .int (u1.1 1)) rfl dX4_jumper_9 ?_
    refine ww_if_lt X (tgt := 24) dX4_jumper_12 (by decide) (fun h4 => ?_) (fun h4 => ?_)
    · have hp := hp.1 h4
      exact ww_sub (lv' := [(0, .ref (ad 0))]) [0] rfl (wX4_jumper_b24 X   u1 hp)
    · have hp := hp.2 h4
      refine ww_aload_n X dX4_jumper_15 0 rfl ?_
      refine ww_get X in_X4_jumper_X4 0 cg_0 rfl 7 (by decide) (X.wd 1 rfl) (v := .int (u1.1 1)) rfl dX4_jumper_16 ?_
      refine ww_bipush X (v := 24) dX4_jumper_19 (by decide) ?_
      refine ww_icmp_lt X (tgt := 28) dX4_jumper_21 (by decide) (fun h5 => ?_) (fun h5 => ?_)
      · have hp := hp.1 h5
        refine ww_aload_n X dX4_jumper_28 0 rfl ?_
        refine ww_get X in_X4_jumper_X4 0 cg_0 rfl 7 (by decide) (X.wd 1 rfl) (v := .int (u1.1 1)) rfl dX4_jumper_29 ?_
        refine ww_top (fun v6 hv6 => ?_)
        have hp := hp v6 hv6
        refine ww_istore_n X (lv' := [(2, .int v6), (0, .ref (ad 0)), (1, .int a1)]) dX4_jumper_32 (by decide) rfl ?_
        refine ww_aload_n X dX4_jumper_33 1 rfl ?_
        refine ww_get X in_X4_jumper_X4 0 cg_0 rfl 5 (by decide) (X.wd 2 rfl) (v := .ref (ad 24)) rfl dX4_jumper_34 ?_
        refine ww_iload_n X dX4_jumper_37 0 rfl ?_
        refine ww_iload_n X dX4_jumper_38 2 rfl ?_
        obtain ⟨h7, hp⟩ := hp
        refine ww_iast X 24 1 cg_24 rfl (sg' := (sA u1 18 v6 a1)) h7 ca_24 dX4_jumper_39 ?_
        refine ww_aload_n X dX4_jumper_40 1 rfl ?_
        refine ww_iload_n X dX4_jumper_41 0 rfl ?_
        refine ww_iconst X (v := 1) dX4_jumper_42 (by decide) ?_
        refine ww_iadd X dX4_jumper_43 ?_
        refine ww_put X in_X4_jumper_X4 tyX4 tyX4_ok nmX4 0 cg_0 rfl 7 (by decide) (X.wd 1 rfl) rfl pd_X4_7 (Nat.le_of_ble_eq_true rfl) (sg' := (sS (sA u1 18 v6 a1) 1 (v6 + 1))) cs_1 dX4_jumper_44 ?_
        refine ww_iload_n X dX4_jumper_47 0 rfl ?_
        exact ww_iret X hp dX4_jumper_48
      · have hp := hp.2 h5
        exact ww_sub (lv' := [(0, .ref (ad 0))]) [0] rfl (wX4_jumper_b24 X   u1 hp)
set_option maxHeartbeats 4000000 in
set_option maxRecDepth 100000 in
theorem wX4_isSensor_b14 {p : Program} {l : Launch} {e : Env} {s : State} {m : MethodId} {args : Array Value} {below : List Frame} {meth : Method} {c : Code} {D : va_G} {A : Nat → Prop} {ad : Nat → Nat} {cB cI cZ : ClassId} {post : Int32 → Sg → Prop}  (X : Cx p s m args meth c cX4_isSensor 2 (some .boolean) RX4 wsX4_isSensor D (tyL cB cI cZ) A)  (y0 : Int32) (z : Sg) (hp : pX4_isSensor_b14  post y0 z) : WW p l e rmX4_isSensor s m args below meth c 2 D A (cW ad cB cI cZ) (QI below args s D (tyL cB cI cZ) (cW ad cB cI cZ) A post) z 14 [(0, .ref (ad 0))] [.int y0] := by
  unfold pX4_isSensor_b14 at hp
  exact ww_zret X hp.1 hp.2 dX4_isSensor_14
set_option maxHeartbeats 4000000 in
set_option maxRecDepth 100000 in
theorem wX4_isSensor_b13 {p : Program} {l : Launch} {e : Env} {s : State} {m : MethodId} {args : Array Value} {below : List Frame} {meth : Method} {c : Code} {D : va_G} {A : Nat → Prop} {ad : Nat → Nat} {cB cI cZ : ClassId} {post : Int32 → Sg → Prop}  (X : Cx p s m args meth c cX4_isSensor 2 (some .boolean) RX4 wsX4_isSensor D (tyL cB cI cZ) A)  (z : Sg) (hp : pX4_isSensor_b13  post  z) : WW p l e rmX4_isSensor s m args below meth c 2 D A (cW ad cB cI cZ) (QI below args s D (tyL cB cI cZ) (cW ad cB cI cZ) A post) z 13 [(0, .ref (ad 0))] [] := by
  unfold pX4_isSensor_b13 at hp
  refine ww_iconst X (v := 0) dX4_isSensor_13 (by decide) ?_
  exact wX4_isSensor_b14 X  0 z hp
set_option maxHeartbeats 4000000 in
set_option maxRecDepth 100000 in
theorem kX4_isSensor (l : Launch) (D : va_G) (ad : Nat → Nat) (cB cI cZ : ClassId) (a1 : Int32) (z : Sg) (post : Int32 → Sg → Prop) (hp : pX4_isSensor a1 z post) : Ci l D (tyL cB cI cZ) (cW ad cB cI cZ) yX4_isSensor wsX4_isSensor rmX4_isSensor [.ref (ad 0), .int a1] z post := by
  refine Ci.of (cc := cX4_isSensor) (maxL := 2) (ret := (some .boolean)) (by decide) rfl (Nat.le_of_ble_eq_true rfl) ?_
  intro p e s m args below meth c A X
  have X : Cx p s m args meth c cX4_isSensor 2 (some .boolean) RX4 wsX4_isSensor D (tyL cB cI cZ) A := X
  show WW p l e rmX4_isSensor s m args below meth c 2 D A (cW ad cB cI cZ) (QI below args s D (tyL cB cI cZ) (cW ad cB cI cZ) A post) z 0 [(0, .ref (ad 0)), (1, .int a1)] []
  unfold pX4_isSensor at hp
  refine ww_iload_n X dX4_isSensor_0 1 rfl ?_
  refine ww_if_lt X (tgt := 13) dX4_isSensor_1 (by decide) (fun h1 => ?_) (fun h1 => ?_)
  · have hp := hp.1 h1
    exact ww_sub (lv' := [(0, .ref (ad 0))]) [0] rfl (wX4_isSensor_b13 X   z hp)
  · have hp := hp.2 h1
    refine ww_iload_n X dX4_isSensor_4 1 rfl ?_
    refine ww_iconst X (v := 5) dX4_isSensor_5 (by decide) ?_
    refine ww_icmp_ge X (tgt := 13) dX4_isSensor_6 (by decide) (fun h2 => ?_) (fun h2 => ?_)
    · have hp := hp.1 h2
      exact ww_sub (lv' := [(0, .ref (ad 0))]) [0] rfl (wX4_isSensor_b13 X   z hp)
    · have hp := hp.2 h2
      refine ww_iconst X (v := 1) dX4_isSensor_9 (by decide) ?_
      refine ww_goto X (tgt := 14) dX4_isSensor_10 (by decide) ?_
      exact ww_sub (lv' := [(0, .ref (ad 0))]) [0] rfl (wX4_isSensor_b14 X  1 z hp)
set_option maxHeartbeats 4000000 in
set_option maxRecDepth 100000 in
theorem wX4_sensor_b18 {p : Program} {l : Launch} {e : Env} {s : State} {m : MethodId} {args : Array Value} {below : List Frame} {meth : Method} {c : Code} {D : va_G} {A : Nat → Prop} {ad : Nat → Nat} {cB cI cZ : ClassId} {post : Int32 → Sg → Prop}  (X : Cx p s m args meth c cX4_sensor 3 (some .boolean) RX4 wsX4_sensor D (tyL cB cI cZ) A)  (z : Sg) (hp : pX4_sensor_b18  post  z) : WW p l e rmX4_sensor s m args below meth c 3 D A (cW ad cB cI cZ) (QI below args s D (tyL cB cI cZ) (cW ad cB cI cZ) A post) z 18 [(0, .ref (ad 0))] [] := by
  unfold pX4_sensor_b18 at hp
  refine ww_iconst X (v := 0) dX4_sensor_18 (by decide) ?_
  exact ww_zret X (Or.inl rfl) hp dX4_sensor_19
set_option maxHeartbeats 4000000 in
set_option maxRecDepth 100000 in
theorem kX4_sensor (l : Launch) (D : va_G) (ad : Nat → Nat) (cB cI cZ : ClassId) (a1 a2 : Int32) (z : Sg) (post : Int32 → Sg → Prop) (hp : pX4_sensor a1 a2 z post) : Ci l D (tyL cB cI cZ) (cW ad cB cI cZ) yX4_sensor wsX4_sensor rmX4_sensor [.ref (ad 0), .int a1, .int a2] z post := by
  refine Ci.of (cc := cX4_sensor) (maxL := 3) (ret := (some .boolean)) (by decide) rfl (Nat.le_of_ble_eq_true rfl) ?_
  intro p e s m args below meth c A X
  have X : Cx p s m args meth c cX4_sensor 3 (some .boolean) RX4 wsX4_sensor D (tyL cB cI cZ) A := X
  show WW p l e rmX4_sensor s m args below meth c 3 D A (cW ad cB cI cZ) (QI below args s D (tyL cB cI cZ) (cW ad cB cI cZ) A post) z 0 [(0, .ref (ad 0)), (1, .int a1), (2, .int a2)] []
  unfold pX4_sensor at hp
  refine ww_aload_n X dX4_sensor_0 0 rfl ?_
  refine ww_iload_n X dX4_sensor_1 1 rfl ?_
  refine ww_callV_i X (As := [.int a1]) (rest := []) (kX4_isSensor l D ad cB cI cZ a1 z _ hp) (cwV 1 X.hts gX4_sensor_X4_isSensor rfl rfl rfl hd_X4_isSensor ⟨Nat.le_of_ble_eq_true rfl, Nat.le_of_ble_eq_true rfl⟩) 0 4 cg_0 rfl rfl rfl rfl (Nat.le_of_ble_eq_true rfl) dX4_sensor_2 (fun r2 u1 hp => ?_)
  refine ww_if_eq X (tgt := 18) dX4_sensor_5 (by decide) (fun h3 => ?_) (fun h3 => ?_)
  · have hp := hp.1 h3
    exact ww_sub (lv' := [(0, .ref (ad 0))]) [0] rfl (wX4_sensor_b18 X   u1 hp)
  · have hp := hp.2 h3
    refine ww_iload_n X dX4_sensor_8 2 rfl ?_
    refine ww_if_lt X (tgt := 18) dX4_sensor_9 (by decide) (fun h4 => ?_) (fun h4 => ?_)
    · have hp := hp.1 h4
      exact ww_sub (lv' := [(0, .ref (ad 0))]) [0] rfl (wX4_sensor_b18 X   u1 hp)
    · have hp := hp.2 h4
      refine ww_iload_n X dX4_sensor_12 2 rfl ?_
      refine ww_bipush X (v := 9) dX4_sensor_13 (by decide) ?_
      refine ww_icmp_le X (tgt := 20) dX4_sensor_15 (by decide) (fun h5 => ?_) (fun h5 => ?_)
      · have hp := hp.1 h5
        refine ww_aload_n X dX4_sensor_20 0 rfl ?_
        refine ww_get X in_X4_sensor_X4 0 cg_0 rfl 2 (by decide) (X.wd 1 rfl) (v := .ref (ad 2)) rfl dX4_sensor_21 ?_
        refine ww_getN X in_X4_sensor_X3 2 cg_2 rfl 2 (by decide) (X.nest 9 rfl) (v := .ref (ad 10)) rfl dX4_sensor_24 ?_
        refine ww_iload_n X dX4_sensor_27 1 rfl ?_
        refine ww_iload_n X dX4_sensor_28 2 rfl ?_
        obtain ⟨h6, hp⟩ := hp
        refine ww_iast X 10 1 cg_10 rfl (sg' := (sA u1 6 a1 a2)) h6 ca_10 dX4_sensor_29 ?_
        refine ww_iconst X (v := 1) dX4_sensor_30 (by decide) ?_
        exact ww_zret X (Or.inr rfl) hp dX4_sensor_31
      · have hp := hp.2 h5
        exact ww_sub (lv' := [(0, .ref (ad 0))]) [0] rfl (wX4_sensor_b18 X   u1 hp)
set_option maxHeartbeats 4000000 in
set_option maxRecDepth 100000 in
theorem wX4_isGate_b16 {p : Program} {l : Launch} {e : Env} {s : State} {m : MethodId} {args : Array Value} {below : List Frame} {meth : Method} {c : Code} {D : va_G} {A : Nat → Prop} {ad : Nat → Nat} {cB cI cZ : ClassId} {post : Int32 → Sg → Prop}  (X : Cx p s m args meth c cX4_isGate 2 (some .boolean) RX4 wsX4_isGate D (tyL cB cI cZ) A)  (y0 : Int32) (z : Sg) (hp : pX4_isGate_b16  post y0 z) : WW p l e rmX4_isGate s m args below meth c 2 D A (cW ad cB cI cZ) (QI below args s D (tyL cB cI cZ) (cW ad cB cI cZ) A post) z 16 [(0, .ref (ad 0))] [.int y0] := by
  unfold pX4_isGate_b16 at hp
  exact ww_zret X hp.1 hp.2 dX4_isGate_16
set_option maxHeartbeats 4000000 in
set_option maxRecDepth 100000 in
theorem wX4_isGate_b15 {p : Program} {l : Launch} {e : Env} {s : State} {m : MethodId} {args : Array Value} {below : List Frame} {meth : Method} {c : Code} {D : va_G} {A : Nat → Prop} {ad : Nat → Nat} {cB cI cZ : ClassId} {post : Int32 → Sg → Prop}  (X : Cx p s m args meth c cX4_isGate 2 (some .boolean) RX4 wsX4_isGate D (tyL cB cI cZ) A)  (z : Sg) (hp : pX4_isGate_b15  post  z) : WW p l e rmX4_isGate s m args below meth c 2 D A (cW ad cB cI cZ) (QI below args s D (tyL cB cI cZ) (cW ad cB cI cZ) A post) z 15 [(0, .ref (ad 0))] [] := by
  unfold pX4_isGate_b15 at hp
  refine ww_iconst X (v := 0) dX4_isGate_15 (by decide) ?_
  exact wX4_isGate_b16 X  0 z hp
set_option maxHeartbeats 4000000 in
set_option maxRecDepth 100000 in
theorem kX4_isGate (l : Launch) (D : va_G) (ad : Nat → Nat) (cB cI cZ : ClassId) (a1 : Int32) (z : Sg) (post : Int32 → Sg → Prop) (hp : pX4_isGate a1 z post) : Ci l D (tyL cB cI cZ) (cW ad cB cI cZ) yX4_isGate wsX4_isGate rmX4_isGate [.ref (ad 0), .int a1] z post := by
  refine Ci.of (cc := cX4_isGate) (maxL := 2) (ret := (some .boolean)) (by decide) rfl (Nat.le_of_ble_eq_true rfl) ?_
  intro p e s m args below meth c A X
  have X : Cx p s m args meth c cX4_isGate 2 (some .boolean) RX4 wsX4_isGate D (tyL cB cI cZ) A := X
  show WW p l e rmX4_isGate s m args below meth c 2 D A (cW ad cB cI cZ) (QI below args s D (tyL cB cI cZ) (cW ad cB cI cZ) A post) z 0 [(0, .ref (ad 0)), (1, .int a1)] []
  unfold pX4_isGate at hp
  refine ww_iload_n X dX4_isGate_0 1 rfl ?_
  refine ww_iconst X (v := 1) dX4_isGate_1 (by decide) ?_
  refine ww_icmp_lt X (tgt := 15) dX4_isGate_2 (by decide) (fun h1 => ?_) (fun h1 => ?_)
  · have hp := hp.1 h1
    exact ww_sub (lv' := [(0, .ref (ad 0))]) [0] rfl (wX4_isGate_b15 X   z hp)
  · have hp := hp.2 h1
    refine ww_iload_n X dX4_isGate_5 1 rfl ?_
    refine ww_bipush X (v := 50) dX4_isGate_6 (by decide) ?_
    refine ww_icmp_gt X (tgt := 15) dX4_isGate_8 (by decide) (fun h2 => ?_) (fun h2 => ?_)
    · have hp := hp.1 h2
      exact ww_sub (lv' := [(0, .ref (ad 0))]) [0] rfl (wX4_isGate_b15 X   z hp)
    · have hp := hp.2 h2
      refine ww_iconst X (v := 1) dX4_isGate_11 (by decide) ?_
      refine ww_goto X (tgt := 16) dX4_isGate_12 (by decide) ?_
      exact ww_sub (lv' := [(0, .ref (ad 0))]) [0] rfl (wX4_isGate_b16 X  1 z hp)
set_option maxHeartbeats 4000000 in
set_option maxRecDepth 100000 in
theorem kX4_base (l : Launch) (D : va_G) (ad : Nat → Nat) (cB cI cZ : ClassId) (a1 : Int32) (z : Sg) (post : Int32 → Sg → Prop) (hp : pX4_base a1 z post) : Ci l D (tyL cB cI cZ) (cW ad cB cI cZ) yX4_base wsX4_base rmX4_base [.ref (ad 0), .int a1] z post := by
  refine Ci.of (cc := cX4_base) (maxL := 2) (ret := (some .boolean)) (by decide) rfl (Nat.le_of_ble_eq_true rfl) ?_
  intro p e s m args below meth c A X
  have X : Cx p s m args meth c cX4_base 2 (some .boolean) RX4 wsX4_base D (tyL cB cI cZ) A := X
  show WW p l e rmX4_base s m args below meth c 2 D A (cW ad cB cI cZ) (QI below args s D (tyL cB cI cZ) (cW ad cB cI cZ) A post) z 0 [(0, .ref (ad 0)), (1, .int a1)] []
  unfold pX4_base at hp
  refine ww_aload_n X dX4_base_0 0 rfl ?_
  refine ww_iload_n X dX4_base_1 1 rfl ?_
  refine ww_callV_i X (As := [.int a1]) (rest := []) (kX4_isGate l D ad cB cI cZ a1 z _ hp) (cwV 1 X.hts gX4_base_X4_isGate rfl rfl rfl hd_X4_isGate ⟨Nat.le_of_ble_eq_true rfl, Nat.le_of_ble_eq_true rfl⟩) 0 4 cg_0 rfl rfl rfl rfl (Nat.le_of_ble_eq_true rfl) dX4_base_2 (fun r2 u1 hp => ?_)
  refine ww_if_ne X (tgt := 10) dX4_base_5 (by decide) (fun h3 => ?_) (fun h3 => ?_)
  · have hp := hp.1 h3
    refine ww_aload_n X dX4_base_10 0 rfl ?_
    refine ww_get X in_X4_base_X4 0 cg_0 rfl 2 (by decide) (X.wd 1 rfl) (v := .ref (ad 2)) rfl dX4_base_11 ?_
    refine ww_iload_n X dX4_base_14 1 rfl ?_
    refine ww_putN X in_X4_base_X3 tyX3 tyX3_ok nmX3 2 cg_2 rfl 3 (by decide) (X.nest 10 rfl) rfl pd_X3_3 (Nat.le_of_ble_eq_true rfl) (sg' := (sS u1 5 a1)) cs_5 dX4_base_15 ?_
    refine ww_iconst X (v := 1) dX4_base_18 (by decide) ?_
    exact ww_zret X (Or.inr rfl) hp dX4_base_19
  · have hp := hp.2 h3
    refine ww_iconst X (v := 0) dX4_base_8 (by decide) ?_
    exact ww_zret X (Or.inl rfl) hp dX4_base_9
set_option maxHeartbeats 4000000 in
set_option maxRecDepth 100000 in
theorem wX4_isJumper_b23 {p : Program} {l : Launch} {e : Env} {s : State} {m : MethodId} {args : Array Value} {below : List Frame} {meth : Method} {c : Code} {D : va_G} {A : Nat → Prop} {ad : Nat → Nat} {cB cI cZ : ClassId} {post : Int32 → Sg → Prop}  (X : Cx p s m args meth c cX4_isJumper 2 (some .boolean) RX4 wsX4_isJumper D (tyL cB cI cZ) A)  (y0 : Int32) (z : Sg) (hp : pX4_isJumper_b23  post y0 z) : WW p l e rmX4_isJumper s m args below meth c 2 D A (cW ad cB cI cZ) (QI below args s D (tyL cB cI cZ) (cW ad cB cI cZ) A post) z 23 [(0, .ref (ad 0))] [.int y0] := by
  unfold pX4_isJumper_b23 at hp
  exact ww_zret X hp.1 hp.2 dX4_isJumper_23
set_option maxHeartbeats 4000000 in
set_option maxRecDepth 100000 in
theorem wX4_isJumper_b22 {p : Program} {l : Launch} {e : Env} {s : State} {m : MethodId} {args : Array Value} {below : List Frame} {meth : Method} {c : Code} {D : va_G} {A : Nat → Prop} {ad : Nat → Nat} {cB cI cZ : ClassId} {post : Int32 → Sg → Prop}  (X : Cx p s m args meth c cX4_isJumper 2 (some .boolean) RX4 wsX4_isJumper D (tyL cB cI cZ) A)  (z : Sg) (hp : pX4_isJumper_b22  post  z) : WW p l e rmX4_isJumper s m args below meth c 2 D A (cW ad cB cI cZ) (QI below args s D (tyL cB cI cZ) (cW ad cB cI cZ) A post) z 22 [(0, .ref (ad 0))] [] := by
  unfold pX4_isJumper_b22 at hp
  refine ww_iconst X (v := 0) dX4_isJumper_22 (by decide) ?_
  exact wX4_isJumper_b23 X  0 z hp
set_option maxHeartbeats 4000000 in
set_option maxRecDepth 100000 in
theorem kX4_isJumper (l : Launch) (D : va_G) (ad : Nat → Nat) (cB cI cZ : ClassId) (a1 : Int32) (z : Sg) (post : Int32 → Sg → Prop) (hp : pX4_isJumper a1 z post) : Ci l D (tyL cB cI cZ) (cW ad cB cI cZ) yX4_isJumper wsX4_isJumper rmX4_isJumper [.ref (ad 0), .int a1] z post := by
  refine Ci.of (cc := cX4_isJumper) (maxL := 2) (ret := (some .boolean)) (by decide) rfl (Nat.le_of_ble_eq_true rfl) ?_
  intro p e s m args below meth c A X
  have X : Cx p s m args meth c cX4_isJumper 2 (some .boolean) RX4 wsX4_isJumper D (tyL cB cI cZ) A := X
  show WW p l e rmX4_isJumper s m args below meth c 2 D A (cW ad cB cI cZ) (QI below args s D (tyL cB cI cZ) (cW ad cB cI cZ) A post) z 0 [(0, .ref (ad 0)), (1, .int a1)] []
  unfold pX4_isJumper at hp
  refine ww_iload_n X dX4_isJumper_0 1 rfl ?_
  refine ww_if_lt X (tgt := 22) dX4_isJumper_1 (by decide) (fun h1 => ?_) (fun h1 => ?_)
  · have hp := hp.1 h1
    exact ww_sub (lv' := [(0, .ref (ad 0))]) [0] rfl (wX4_isJumper_b22 X   z hp)
  · have hp := hp.2 h1
    refine ww_iload_n X dX4_isJumper_4 1 rfl ?_
    refine ww_aload_n X dX4_isJumper_5 0 rfl ?_
    refine ww_get X in_X4_isJumper_X4 0 cg_0 rfl 7 (by decide) (X.wd 1 rfl) (v := .int (z.1 1)) rfl dX4_isJumper_6 ?_
    refine ww_icmp_ge X (tgt := 22) dX4_isJumper_9 (by decide) (fun h2 => ?_) (fun h2 => ?_)
    · have hp := hp.1 h2
      exact ww_sub (lv' := [(0, .ref (ad 0))]) [0] rfl (wX4_isJumper_b22 X   z hp)
    · have hp := hp.2 h2
      refine ww_iload_n X dX4_isJumper_12 1 rfl ?_
      refine ww_bipush X (v := 24) dX4_isJumper_13 (by decide) ?_
      refine ww_icmp_ge X (tgt := 22) dX4_isJumper_15 (by decide) (fun h3 => ?_) (fun h3 => ?_)
      · have hp := hp.1 h3
        exact ww_sub (lv' := [(0, .ref (ad 0))]) [0] rfl (wX4_isJumper_b22 X   z hp)
      · have hp := hp.2 h3
        refine ww_iconst X (v := 1) dX4_isJumper_18 (by decide) ?_
        refine ww_goto X (tgt := 23) dX4_isJumper_19 (by decide) ?_
        exact ww_sub (lv' := [(0, .ref (ad 0))]) [0] rfl (wX4_isJumper_b23 X  1 z hp)
set_option maxHeartbeats 4000000 in
set_option maxRecDepth 100000 in
theorem wX4_isRound_b14 {p : Program} {l : Launch} {e : Env} {s : State} {m : MethodId} {args : Array Value} {below : List Frame} {meth : Method} {c : Code} {D : va_G} {A : Nat → Prop} {ad : Nat → Nat} {cB cI cZ : ClassId} {post : Int32 → Sg → Prop}  (X : Cx p s m args meth c cX4_isRound 2 (some .boolean) RX4 wsX4_isRound D (tyL cB cI cZ) A)  (y0 : Int32) (z : Sg) (hp : pX4_isRound_b14  post y0 z) : WW p l e rmX4_isRound s m args below meth c 2 D A (cW ad cB cI cZ) (QI below args s D (tyL cB cI cZ) (cW ad cB cI cZ) A post) z 14 [(0, .ref (ad 0))] [.int y0] := by
  unfold pX4_isRound_b14 at hp
  exact ww_zret X hp.1 hp.2 dX4_isRound_14
set_option maxHeartbeats 4000000 in
set_option maxRecDepth 100000 in
theorem wX4_isRound_b13 {p : Program} {l : Launch} {e : Env} {s : State} {m : MethodId} {args : Array Value} {below : List Frame} {meth : Method} {c : Code} {D : va_G} {A : Nat → Prop} {ad : Nat → Nat} {cB cI cZ : ClassId} {post : Int32 → Sg → Prop}  (X : Cx p s m args meth c cX4_isRound 2 (some .boolean) RX4 wsX4_isRound D (tyL cB cI cZ) A)  (z : Sg) (hp : pX4_isRound_b13  post  z) : WW p l e rmX4_isRound s m args below meth c 2 D A (cW ad cB cI cZ) (QI below args s D (tyL cB cI cZ) (cW ad cB cI cZ) A post) z 13 [(0, .ref (ad 0))] [] := by
  unfold pX4_isRound_b13 at hp
  refine ww_iconst X (v := 0) dX4_isRound_13 (by decide) ?_
  exact wX4_isRound_b14 X  0 z hp
set_option maxHeartbeats 4000000 in
set_option maxRecDepth 100000 in
theorem kX4_isRound (l : Launch) (D : va_G) (ad : Nat → Nat) (cB cI cZ : ClassId) (a1 : Int32) (z : Sg) (post : Int32 → Sg → Prop) (hp : pX4_isRound a1 z post) : Ci l D (tyL cB cI cZ) (cW ad cB cI cZ) yX4_isRound wsX4_isRound rmX4_isRound [.ref (ad 0), .int a1] z post := by
  refine Ci.of (cc := cX4_isRound) (maxL := 2) (ret := (some .boolean)) (by decide) rfl (Nat.le_of_ble_eq_true rfl) ?_
  intro p e s m args below meth c A X
  have X : Cx p s m args meth c cX4_isRound 2 (some .boolean) RX4 wsX4_isRound D (tyL cB cI cZ) A := X
  show WW p l e rmX4_isRound s m args below meth c 2 D A (cW ad cB cI cZ) (QI below args s D (tyL cB cI cZ) (cW ad cB cI cZ) A post) z 0 [(0, .ref (ad 0)), (1, .int a1)] []
  unfold pX4_isRound at hp
  refine ww_iload_n X dX4_isRound_0 1 rfl ?_
  refine ww_if_lt X (tgt := 13) dX4_isRound_1 (by decide) (fun h1 => ?_) (fun h1 => ?_)
  · have hp := hp.1 h1
    exact ww_sub (lv' := [(0, .ref (ad 0))]) [0] rfl (wX4_isRound_b13 X   z hp)
  · have hp := hp.2 h1
    refine ww_iload_n X dX4_isRound_4 1 rfl ?_
    refine ww_iconst X (v := 2) dX4_isRound_5 (by decide) ?_
    refine ww_icmp_ge X (tgt := 13) dX4_isRound_6 (by decide) (fun h2 => ?_) (fun h2 => ?_)
    · have hp := hp.1 h2
      exact ww_sub (lv' := [(0, .ref (ad 0))]) [0] rfl (wX4_isRound_b13 X   z hp)
    · have hp := hp.2 h2
      refine ww_iconst X (v := 1) dX4_isRound_9 (by decide) ?_
      refine ww_goto X (tgt := 14) dX4_isRound_10 (by decide) ?_
      exact ww_sub (lv' := [(0, .ref (ad 0))]) [0] rfl (wX4_isRound_b14 X  1 z hp)
set_option maxHeartbeats 4000000 in
set_option maxRecDepth 100000 in
theorem kX4_jumpOf (l : Launch) (D : va_G) (ad : Nat → Nat) (cB cI cZ : ClassId) (a0 a1 : Int32) (z : Sg) (post : Int32 → Sg → Prop) (hp : pX4_jumpOf a0 a1 z post) : Ci l D (tyL cB cI cZ) (cW ad cB cI cZ) yX4_jumpOf wsX4_jumpOf rmX4_jumpOf [.int a0, .int a1] z post := by
  refine Ci.of (cc := cX4_jumpOf) (maxL := 2) (ret := (some .int)) (by decide) rfl (Nat.le_of_ble_eq_true rfl) ?_
  intro p e s m args below meth c A X
  have X : Cx p s m args meth c cX4_jumpOf 2 (some .int) RX4 wsX4_jumpOf D (tyL cB cI cZ) A := X
  show WW p l e rmX4_jumpOf s m args below meth c 2 D A (cW ad cB cI cZ) (QI below args s D (tyL cB cI cZ) (cW ad cB cI cZ) A post) z 0 [(0, .int a0), (1, .int a1)] []
  unfold pX4_jumpOf at hp
  refine ww_iload_n X dX4_jumpOf_0 1 rfl ?_
  refine ww_bipush X (v := 24) dX4_jumpOf_1 (by decide) ?_
  refine ww_imul X dX4_jumpOf_3 ?_
  refine ww_iload_n X dX4_jumpOf_4 0 rfl ?_
  refine ww_iadd X dX4_jumpOf_5 ?_
  exact ww_iret X hp dX4_jumpOf_6
set_option maxHeartbeats 4000000 in
set_option maxRecDepth 100000 in
theorem wX4_reading_b66 {p : Program} {l : Launch} {e : Env} {s : State} {m : MethodId} {args : Array Value} {below : List Frame} {meth : Method} {c : Code} {D : va_G} {A : Nat → Prop} {ad : Nat → Nat} {cB cI cZ : ClassId} {post : Int32 → Sg → Prop}  (X : Cx p s m args meth c cX4_reading 6 (some .int) RX4 wsX4_reading D (tyL cB cI cZ) A)  (y0 y1 y2 y3 y4 : Int32) (z : Sg) (hp : pX4_reading_b66  post y0 y1 y2 y3 y4 z) : WW p l e rmX4_reading s m args below meth c 6 D A (cW ad cB cI cZ) (QI below args s D (tyL cB cI cZ) (cW ad cB cI cZ) A post) z 66 [(0, .ref (ad 0))] [.int y0, .int y1, .int y2, .int y3, .int y4, .ref (ad 6)] := by
  unfold pX4_reading_b66 at hp
  refine ww_iconst X (v := 0) dX4_reading_66 (by decide) ?_
  refine ww_iconst X (v := 0) dX4_reading_67 (by decide) ?_
  refine ww_callN_i X (As := [.int y4, .int y3, .int y2, .int y1, .int y0, .int 0, .int 0]) (rest := []) (kX1_add l D ad cB cI cZ y4 y3 y2 y1 y0 0 0 z _ hp) (⟨va_cnB 7 X.hts gX4_reading_X1_add_n102 rfl rfl rfl (X.hE.2 _ (List.mem_of_getElem? (i := 15) rfl)) (X.wd 20 rfl) hn_X1_add ⟨Nat.le_of_ble_eq_true rfl, Nat.le_of_ble_eq_true rfl⟩, (X.wd 19 rfl), (X.wd 21 rfl)⟩) 6 1 cg_6 rfl rfl rfl rfl (Nat.le_of_ble_eq_true rfl) dX4_reading_68 (fun r2 u1 hp => ?_)
  exact ww_iret X hp dX4_reading_71
set_option maxHeartbeats 4000000 in
set_option maxRecDepth 100000 in
theorem wX4_reading_b36 {p : Program} {l : Launch} {e : Env} {s : State} {m : MethodId} {args : Array Value} {below : List Frame} {meth : Method} {c : Code} {D : va_G} {A : Nat → Prop} {ad : Nat → Nat} {cB cI cZ : ClassId} {post : Int32 → Sg → Prop}  (X : Cx p s m args meth c cX4_reading 6 (some .int) RX4 wsX4_reading D (tyL cB cI cZ) A)  (z : Sg) (hp : pX4_reading_b36  post  z) : WW p l e rmX4_reading s m args below meth c 6 D A (cW ad cB cI cZ) (QI below args s D (tyL cB cI cZ) (cW ad cB cI cZ) A post) z 36 [(0, .ref (ad 0))] [] := by
  unfold pX4_reading_b36 at hp
  refine ww_sipush X (v := (-10000)) dX4_reading_36 (by decide) ?_
  exact ww_iret X hp dX4_reading_39
set_option maxHeartbeats 4000000 in
set_option maxRecDepth 100000 in
theorem kX4_reading (l : Launch) (D : va_G) (ad : Nat → Nat) (cB cI cZ : ClassId) (a1 a2 a3 a4 a5 : Int32) (z : Sg) (post : Int32 → Sg → Prop) (hp : pX4_reading a1 a2 a3 a4 a5 z post) : Ci l D (tyL cB cI cZ) (cW ad cB cI cZ) yX4_reading wsX4_reading rmX4_reading [.ref (ad 0), .int a1, .int a2, .int a3, .int a4, .int a5] z post := by
  refine Ci.of (cc := cX4_reading) (maxL := 6) (ret := (some .int)) (by decide) rfl (Nat.le_of_ble_eq_true rfl) ?_
  intro p e s m args below meth c A X
  have X : Cx p s m args meth c cX4_reading 6 (some .int) RX4 wsX4_reading D (tyL cB cI cZ) A := X
  show WW p l e rmX4_reading s m args below meth c 6 D A (cW ad cB cI cZ) (QI below args s D (tyL cB cI cZ) (cW ad cB cI cZ) A post) z 0 [(0, .ref (ad 0)), (1, .int a1), (2, .int a2), (3, .int a3), (4, .int a4), (5, .int a5)] []
  unfold pX4_reading at hp
  refine ww_aload_n X dX4_reading_0 0 rfl ?_
  refine ww_iload_n X dX4_reading_1 1 rfl ?_
  refine ww_callV_i X (As := [.int a1]) (rest := []) (kX4_isJumper l D ad cB cI cZ a1 z _ hp) (cwV 1 X.hts gX4_reading_X4_isJumper rfl rfl rfl hd_X4_isJumper ⟨Nat.le_of_ble_eq_true rfl, Nat.le_of_ble_eq_true rfl⟩) 0 4 cg_0 rfl rfl rfl rfl (Nat.le_of_ble_eq_true rfl) dX4_reading_2 (fun r2 u1 hp => ?_)
  refine ww_if_eq X (tgt := 36) dX4_reading_5 (by decide) (fun h3 => ?_) (fun h3 => ?_)
  · have hp := hp.1 h3
    exact ww_sub (lv' := [(0, .ref (ad 0))]) [0] rfl (wX4_reading_b36 X   u1 hp)
  · have hp := hp.2 h3
    refine ww_aload_n X dX4_reading_8 0 rfl ?_
    refine ww_iload_n X dX4_reading_9 2 rfl ?_
    refine ww_callV_i X (As := [.int a2]) (rest := []) (kX4_isRound l D ad cB cI cZ a2 u1 _ hp) (cwV 1 X.hts gX4_reading_X4_isRound rfl rfl rfl hd_X4_isRound ⟨Nat.le_of_ble_eq_true rfl, Nat.le_of_ble_eq_true rfl⟩) 0 4 cg_0 rfl rfl rfl rfl (Nat.le_of_ble_eq_true rfl) dX4_reading_10 (fun r5 u4 hp => ?_)
    refine ww_if_eq X (tgt := 36) dX4_reading_13 (by decide) (fun h6 => ?_) (fun h6 => ?_)
    · have hp := hp.1 h6
      exact ww_sub (lv' := [(0, .ref (ad 0))]) [0] rfl (wX4_reading_b36 X   u4 hp)
    · have hp := hp.2 h6
      refine ww_iload_n X dX4_reading_16 3 rfl ?_
      refine ww_if_lt X (tgt := 36) dX4_reading_17 (by decide) (fun h7 => ?_) (fun h7 => ?_)
      · have hp := hp.1 h7
        exact ww_sub (lv' := [(0, .ref (ad 0))]) [0] rfl (wX4_reading_b36 X   u4 hp)
      · have hp := hp.2 h7
        refine ww_iload_n X dX4_reading_20 3 rfl ?_
        refine ww_sipush X (v := 600) dX4_reading_21 (by decide) ?_
        refine ww_icmp_gt X (tgt := 36) dX4_reading_24 (by decide) (fun h8 => ?_) (fun h8 => ?_)
        · have hp := hp.1 h8
          exact ww_sub (lv' := [(0, .ref (ad 0))]) [0] rfl (wX4_reading_b36 X   u4 hp)
        · have hp := hp.2 h8
          refine ww_aload_n X dX4_reading_27 0 rfl ?_
          refine ww_iload X dX4_reading_28 4 rfl ?_
          refine ww_callV_i X (As := [.int a4]) (rest := []) (kX4_isGate l D ad cB cI cZ a4 u4 _ hp) (cwV 1 X.hts gX4_reading_X4_isGate rfl rfl rfl hd_X4_isGate ⟨Nat.le_of_ble_eq_true rfl, Nat.le_of_ble_eq_true rfl⟩) 0 4 cg_0 rfl rfl rfl rfl (Nat.le_of_ble_eq_true rfl) dX4_reading_30 (fun r10 u9 hp => ?_)
          refine ww_if_ne X (tgt := 40) dX4_reading_33 (by decide) (fun h11 => ?_) (fun h11 => ?_)
          · have hp := hp.1 h11
            refine ww_aload_n X dX4_reading_40 0 rfl ?_
            refine ww_get X in_X4_reading_X4 0 cg_0 rfl 2 (by decide) (X.wd 1 rfl) (v := .ref (ad 2)) rfl dX4_reading_41 ?_
            refine ww_getN X in_X4_reading_X3 2 cg_2 rfl 1 (by decide) (X.nest 11 rfl) (v := .ref (ad 6)) rfl dX4_reading_44 ?_
            refine ww_iconst X (v := 0) dX4_reading_47 (by decide) ?_
            refine ww_iload_n X dX4_reading_48 1 rfl ?_
            refine ww_iload_n X dX4_reading_49 2 rfl ?_
            refine ww_callS_i X (As := [.int a1, .int a2]) (rest := [.int 0, .ref (ad 6)]) (kX4_jumpOf l D ad cB cI cZ a1 a2 u9 _ hp) (va_cwS 2 X.hts gX4_reading_X4_jumpOf rfl rfl rfl hn_X4_jumpOf ⟨Nat.le_of_ble_eq_true rfl, Nat.le_of_ble_eq_true rfl⟩) rfl rfl (Nat.le_of_ble_eq_true rfl) dX4_reading_50 (fun r13 u12 hp => ?_)
            refine ww_iload_n X dX4_reading_53 3 rfl ?_
            refine ww_iload X dX4_reading_54 4 rfl ?_
            refine ww_iload X dX4_reading_56 5 rfl ?_
            refine ww_if_eq X (tgt := 65) dX4_reading_58 (by decide) (fun h14 => ?_) (fun h14 => ?_)
            · have hp := hp.1 h14
              refine ww_iconst X (v := 0) dX4_reading_65 (by decide) ?_
              exact ww_sub (lv' := [(0, .ref (ad 0))]) [0] rfl (wX4_reading_b66 X  0 a4 a3 r13 0 u12 hp)
            · have hp := hp.2 h14
              refine ww_iconst X (v := 1) dX4_reading_61 (by decide) ?_
              refine ww_goto X (tgt := 66) dX4_reading_62 (by decide) ?_
              exact ww_sub (lv' := [(0, .ref (ad 0))]) [0] rfl (wX4_reading_b66 X  1 a4 a3 r13 0 u12 hp)
          · have hp := hp.2 h11
            exact ww_sub (lv' := [(0, .ref (ad 0))]) [0] rfl (wX4_reading_b36 X   u9 hp)
set_option maxHeartbeats 4000000 in
set_option maxRecDepth 100000 in
theorem wX4_isWind_b26 {p : Program} {l : Launch} {e : Env} {s : State} {m : MethodId} {args : Array Value} {below : List Frame} {meth : Method} {c : Code} {D : va_G} {A : Nat → Prop} {ad : Nat → Nat} {cB cI cZ : ClassId} {post : Int32 → Sg → Prop}  (X : Cx p s m args meth c cX4_isWind 2 (some .boolean) RX4 wsX4_isWind D (tyL cB cI cZ) A)  (y0 : Int32) (z : Sg) (hp : pX4_isWind_b26  post y0 z) : WW p l e rmX4_isWind s m args below meth c 2 D A (cW ad cB cI cZ) (QI below args s D (tyL cB cI cZ) (cW ad cB cI cZ) A post) z 26 [(0, .ref (ad 0))] [.int y0] := by
  unfold pX4_isWind_b26 at hp
  exact ww_zret X hp.1 hp.2 dX4_isWind_26
set_option maxHeartbeats 4000000 in
set_option maxRecDepth 100000 in
theorem wX4_isWind_b25 {p : Program} {l : Launch} {e : Env} {s : State} {m : MethodId} {args : Array Value} {below : List Frame} {meth : Method} {c : Code} {D : va_G} {A : Nat → Prop} {ad : Nat → Nat} {cB cI cZ : ClassId} {post : Int32 → Sg → Prop}  (X : Cx p s m args meth c cX4_isWind 2 (some .boolean) RX4 wsX4_isWind D (tyL cB cI cZ) A)  (z : Sg) (hp : pX4_isWind_b25  post  z) : WW p l e rmX4_isWind s m args below meth c 2 D A (cW ad cB cI cZ) (QI below args s D (tyL cB cI cZ) (cW ad cB cI cZ) A post) z 25 [(0, .ref (ad 0))] [] := by
  unfold pX4_isWind_b25 at hp
  refine ww_iconst X (v := 0) dX4_isWind_25 (by decide) ?_
  exact wX4_isWind_b26 X  0 z hp
set_option maxHeartbeats 4000000 in
set_option maxRecDepth 100000 in
theorem wX4_isWind_b21 {p : Program} {l : Launch} {e : Env} {s : State} {m : MethodId} {args : Array Value} {below : List Frame} {meth : Method} {c : Code} {D : va_G} {A : Nat → Prop} {ad : Nat → Nat} {cB cI cZ : ClassId} {post : Int32 → Sg → Prop}  (X : Cx p s m args meth c cX4_isWind 2 (some .boolean) RX4 wsX4_isWind D (tyL cB cI cZ) A)  (z : Sg) (hp : pX4_isWind_b21  post  z) : WW p l e rmX4_isWind s m args below meth c 2 D A (cW ad cB cI cZ) (QI below args s D (tyL cB cI cZ) (cW ad cB cI cZ) A post) z 21 [(0, .ref (ad 0))] [] := by
  unfold pX4_isWind_b21 at hp
  refine ww_iconst X (v := 1) dX4_isWind_21 (by decide) ?_
  refine ww_goto X (tgt := 26) dX4_isWind_22 (by decide) ?_
  exact wX4_isWind_b26 X  1 z hp
set_option maxHeartbeats 4000000 in
set_option maxRecDepth 100000 in
theorem kX4_isWind (l : Launch) (D : va_G) (ad : Nat → Nat) (cB cI cZ : ClassId) (a1 : Int32) (z : Sg) (post : Int32 → Sg → Prop) (hp : pX4_isWind a1 z post) : Ci l D (tyL cB cI cZ) (cW ad cB cI cZ) yX4_isWind wsX4_isWind rmX4_isWind [.ref (ad 0), .int a1] z post := by
  refine Ci.of (cc := cX4_isWind) (maxL := 2) (ret := (some .boolean)) (by decide) rfl (Nat.le_of_ble_eq_true rfl) ?_
  intro p e s m args below meth c A X
  have X : Cx p s m args meth c cX4_isWind 2 (some .boolean) RX4 wsX4_isWind D (tyL cB cI cZ) A := X
  show WW p l e rmX4_isWind s m args below meth c 2 D A (cW ad cB cI cZ) (QI below args s D (tyL cB cI cZ) (cW ad cB cI cZ) A post) z 0 [(0, .ref (ad 0)), (1, .int a1)] []
  unfold pX4_isWind at hp
  refine ww_iload_n X dX4_isWind_0 1 rfl ?_
  refine ww_sipush X (v := (-10000)) dX4_isWind_1 (by decide) ?_
  refine ww_icmp_eq X (tgt := 21) dX4_isWind_4 (by decide) (fun h1 => ?_) (fun h1 => ?_)
  · have hp := hp.1 h1
    exact ww_sub (lv' := [(0, .ref (ad 0))]) [0] rfl (wX4_isWind_b21 X   z hp)
  · have hp := hp.2 h1
    refine ww_iload_n X dX4_isWind_7 1 rfl ?_
    refine ww_sipush X (v := (-999)) dX4_isWind_8 (by decide) ?_
    refine ww_icmp_lt X (tgt := 25) dX4_isWind_11 (by decide) (fun h2 => ?_) (fun h2 => ?_)
    · have hp := hp.1 h2
      exact ww_sub (lv' := [(0, .ref (ad 0))]) [0] rfl (wX4_isWind_b25 X   z hp)
    · have hp := hp.2 h2
      refine ww_iload_n X dX4_isWind_14 1 rfl ?_
      refine ww_sipush X (v := 999) dX4_isWind_15 (by decide) ?_
      refine ww_icmp_gt X (tgt := 25) dX4_isWind_18 (by decide) (fun h3 => ?_) (fun h3 => ?_)
      · have hp := hp.1 h3
        exact ww_sub (lv' := [(0, .ref (ad 0))]) [0] rfl (wX4_isWind_b25 X   z hp)
      · have hp := hp.2 h3
        exact ww_sub (lv' := [(0, .ref (ad 0))]) [0] rfl (wX4_isWind_b21 X   z hp)
set_option maxHeartbeats 4000000 in
set_option maxRecDepth 100000 in
theorem wX4_addToJump_b11 {p : Program} {l : Launch} {e : Env} {s : State} {m : MethodId} {args : Array Value} {below : List Frame} {meth : Method} {c : Code} {D : va_G} {A : Nat → Prop} {ad : Nat → Nat} {cB cI cZ : ClassId} {post : Int32 → Sg → Prop}  (X : Cx p s m args meth c cX4_addToJump 10 (some .int) RX4 wsX4_addToJump D (tyL cB cI cZ) A)  (x1 x2 x3 x4 x5 x6 x7 y0 : Int32) (z : Sg) (hp : pX4_addToJump_b11  post x1 x2 x3 x4 x5 x6 x7 y0 z) : WW p l e rmX4_addToJump s m args below meth c 10 D A (cW ad cB cI cZ) (QI below args s D (tyL cB cI cZ) (cW ad cB cI cZ) A post) z 11 [(0, .ref (ad 0)), (1, .int x1), (2, .int x2), (3, .int x3), (4, .int x4), (5, .int x5), (6, .int x6), (7, .int x7)] [.int y0] := by
  unfold pX4_addToJump_b11 at hp
  refine ww_istore X (lv' := [(8, .int y0), (0, .ref (ad 0)), (1, .int x1), (2, .int x2), (3, .int x3), (4, .int x4), (5, .int x5), (6, .int x6), (7, .int x7)]) dX4_addToJump_11 (by decide) rfl ?_
  refine ww_iload_n X dX4_addToJump_13 3 rfl ?_
  refine ww_iload X dX4_addToJump_14 0 rfl ?_
  refine ww_bipush X (v := 32) dX4_addToJump_16 (by decide) ?_
  refine ww_imul X dX4_addToJump_18 ?_
  refine ww_isub X dX4_addToJump_19 ?_
  refine ww_top (fun v1 hv1 => ?_)
  have hp := hp v1 hv1
  refine ww_istore X (lv' := [(9, .int v1), (8, .int y0), (0, .ref (ad 0)), (1, .int x1), (2, .int x2), (3, .int x3), (4, .int x4), (5, .int x5), (6, .int x6), (7, .int x7)]) dX4_addToJump_20 (by decide) rfl ?_
  refine ww_aload_n X dX4_addToJump_22 2 rfl ?_
  refine ww_iload X dX4_addToJump_23 0 rfl ?_
  refine ww_callV_i X (As := [.int v1]) (rest := []) (kX4_isJumper l D ad cB cI cZ v1 z _ hp) (cwV 1 X.hts gX4_addToJump_X4_isJumper rfl rfl rfl hd_X4_isJumper ⟨Nat.le_of_ble_eq_true rfl, Nat.le_of_ble_eq_true rfl⟩) 0 4 cg_0 rfl rfl rfl rfl (Nat.le_of_ble_eq_true rfl) dX4_addToJump_25 (fun r3 u2 hp => ?_)
  refine ww_if_ne X (tgt := 35) dX4_addToJump_28 (by decide) (fun h4 => ?_) (fun h4 => ?_)
  · have hp := hp.1 h4
    refine ww_aload_n X dX4_addToJump_35 2 rfl ?_
    refine ww_get X in_X4_addToJump_X4 0 cg_0 rfl 2 (by decide) (X.wd 1 rfl) (v := .ref (ad 2)) rfl dX4_addToJump_36 ?_
    refine ww_getN X in_X4_addToJump_X3 2 cg_2 rfl 1 (by decide) (X.nest 11 rfl) (v := .ref (ad 6)) rfl dX4_addToJump_39 ?_
    refine ww_iload_n X dX4_addToJump_42 3 rfl ?_
    refine ww_iload X dX4_addToJump_43 0 rfl ?_
    refine ww_iload X dX4_addToJump_45 1 rfl ?_
    refine ww_callS_i X (As := [.int v1, .int y0]) (rest := [.int x1, .ref (ad 6)]) (kX4_jumpOf l D ad cB cI cZ v1 y0 u2 _ hp) (va_cwS 2 X.hts gX4_addToJump_X4_jumpOf rfl rfl rfl hn_X4_jumpOf ⟨Nat.le_of_ble_eq_true rfl, Nat.le_of_ble_eq_true rfl⟩) rfl rfl (Nat.le_of_ble_eq_true rfl) dX4_addToJump_47 (fun r6 u5 hp => ?_)
    refine ww_iload_n X dX4_addToJump_50 5 rfl ?_
    refine ww_iload X dX4_addToJump_51 6 rfl ?_
    refine ww_iload X dX4_addToJump_53 7 rfl ?_
    refine ww_iload X dX4_addToJump_55 8 rfl ?_
    refine ww_iload X dX4_addToJump_57 9 rfl ?_
    refine ww_callN_i X (As := [.int x1, .int r6, .int x3, .int x4, .int x5, .int x6, .int x7]) (rest := []) (kX1_add l D ad cB cI cZ x1 r6 x3 x4 x5 x6 x7 u5 _ hp) (⟨va_cnB 7 X.hts gX4_addToJump_X1_add_n102 rfl rfl rfl (X.hE.2 _ (List.mem_of_getElem? (i := 15) rfl)) (X.wd 12 rfl) hn_X1_add ⟨Nat.le_of_ble_eq_true rfl, Nat.le_of_ble_eq_true rfl⟩, (X.wd 11 rfl), (X.wd 13 rfl)⟩) 6 1 cg_6 rfl rfl rfl rfl (Nat.le_of_ble_eq_true rfl) dX4_addToJump_59 (fun r8 u7 hp => ?_)
    exact ww_iret X hp dX4_addToJump_62
  · have hp := hp.2 h4
    refine ww_sipush X (v := (-10000)) dX4_addToJump_31 (by decide) ?_
    exact ww_iret X hp dX4_addToJump_34
set_option maxHeartbeats 4000000 in
set_option maxRecDepth 100000 in
theorem kX4_addToJump (l : Launch) (D : va_G) (ad : Nat → Nat) (cB cI cZ : ClassId) (a1 a2 a3 a4 a5 a6 a7 : Int32) (z : Sg) (post : Int32 → Sg → Prop) (hp : pX4_addToJump a1 a2 a3 a4 a5 a6 a7 z post) : Ci l D (tyL cB cI cZ) (cW ad cB cI cZ) yX4_addToJump wsX4_addToJump rmX4_addToJump [.ref (ad 0), .int a1, .int a2, .int a3, .int a4, .int a5, .int a6, .int a7] z post := by
  refine Ci.of (cc := cX4_addToJump) (maxL := 10) (ret := (some .int)) (by decide) rfl (Nat.le_of_ble_eq_true rfl) ?_
  intro p e s m args below meth c A X
  have X : Cx p s m args meth c cX4_addToJump 10 (some .int) RX4 wsX4_addToJump D (tyL cB cI cZ) A := X
  show WW p l e rmX4_addToJump s m args below meth c 10 D A (cW ad cB cI cZ) (QI below args s D (tyL cB cI cZ) (cW ad cB cI cZ) A post) z 0 [(0, .ref (ad 0)), (1, .int a1), (2, .int a2), (3, .int a3), (4, .int a4), (5, .int a5), (6, .int a6), (7, .int a7)] []
  unfold pX4_addToJump at hp
  refine ww_iload_n X dX4_addToJump_0 2 rfl ?_
  refine ww_bipush X (v := 32) dX4_addToJump_1 (by decide) ?_
  refine ww_icmp_lt X (tgt := 10) dX4_addToJump_3 (by decide) (fun h1 => ?_) (fun h1 => ?_)
  · have hp := hp.1 h1
    refine ww_iconst X (v := 0) dX4_addToJump_10 (by decide) ?_
    exact wX4_addToJump_b11 X  a1 a2 a3 a4 a5 a6 a7 0 z hp
  · have hp := hp.2 h1
    refine ww_iconst X (v := 1) dX4_addToJump_6 (by decide) ?_
    refine ww_goto X (tgt := 11) dX4_addToJump_7 (by decide) ?_
    exact wX4_addToJump_b11 X  a1 a2 a3 a4 a5 a6 a7 1 z hp
set_option maxHeartbeats 4000000 in
set_option maxRecDepth 100000 in
theorem wX4_wind_b43 {p : Program} {l : Launch} {e : Env} {s : State} {m : MethodId} {args : Array Value} {below : List Frame} {meth : Method} {c : Code} {D : va_G} {A : Nat → Prop} {ad : Nat → Nat} {cB cI cZ : ClassId} {post : Int32 → Sg → Prop}  (X : Cx p s m args meth c cX4_wind 7 (some .int) RX4 wsX4_wind D (tyL cB cI cZ) A)  (z : Sg) (hp : pX4_wind_b43  post  z) : WW p l e rmX4_wind s m args below meth c 7 D A (cW ad cB cI cZ) (QI below args s D (tyL cB cI cZ) (cW ad cB cI cZ) A post) z 43 [(0, .ref (ad 0))] [] := by
  unfold pX4_wind_b43 at hp
  refine ww_sipush X (v := (-10000)) dX4_wind_43 (by decide) ?_
  exact ww_iret X hp dX4_wind_46
set_option maxHeartbeats 4000000 in
set_option maxRecDepth 100000 in
theorem kX4_wind (l : Launch) (D : va_G) (ad : Nat → Nat) (cB cI cZ : ClassId) (a1 a2 a3 a4 a5 a6 : Int32) (z : Sg) (post : Int32 → Sg → Prop) (hp : pX4_wind a1 a2 a3 a4 a5 a6 z post) : Ci l D (tyL cB cI cZ) (cW ad cB cI cZ) yX4_wind wsX4_wind rmX4_wind [.ref (ad 0), .int a1, .int a2, .int a3, .int a4, .int a5, .int a6] z post := by
  refine Ci.of (cc := cX4_wind) (maxL := 7) (ret := (some .int)) (by decide) rfl (Nat.le_of_ble_eq_true rfl) ?_
  intro p e s m args below meth c A X
  have X : Cx p s m args meth c cX4_wind 7 (some .int) RX4 wsX4_wind D (tyL cB cI cZ) A := X
  show WW p l e rmX4_wind s m args below meth c 7 D A (cW ad cB cI cZ) (QI below args s D (tyL cB cI cZ) (cW ad cB cI cZ) A post) z 0 [(0, .ref (ad 0)), (1, .int a1), (2, .int a2), (3, .int a3), (4, .int a4), (5, .int a5), (6, .int a6)] []
  unfold pX4_wind at hp
  refine ww_aload_n X dX4_wind_0 0 rfl ?_
  refine ww_iload_n X dX4_wind_1 2 rfl ?_
  refine ww_callV_i X (As := [.int a2]) (rest := []) (kX4_isWind l D ad cB cI cZ a2 z _ hp) (cwV 1 X.hts gX4_wind_X4_isWind rfl rfl rfl hd_X4_isWind ⟨Nat.le_of_ble_eq_true rfl, Nat.le_of_ble_eq_true rfl⟩) 0 4 cg_0 rfl rfl rfl rfl (Nat.le_of_ble_eq_true rfl) dX4_wind_2 (fun r2 u1 hp => ?_)
  refine ww_if_eq X (tgt := 43) dX4_wind_5 (by decide) (fun h3 => ?_) (fun h3 => ?_)
  · have hp := hp.1 h3
    exact ww_sub (lv' := [(0, .ref (ad 0))]) [0] rfl (wX4_wind_b43 X   u1 hp)
  · have hp := hp.2 h3
    refine ww_aload_n X dX4_wind_8 0 rfl ?_
    refine ww_iload_n X dX4_wind_9 3 rfl ?_
    refine ww_callV_i X (As := [.int a3]) (rest := []) (kX4_isWind l D ad cB cI cZ a3 u1 _ hp) (cwV 1 X.hts gX4_wind_X4_isWind rfl rfl rfl hd_X4_isWind ⟨Nat.le_of_ble_eq_true rfl, Nat.le_of_ble_eq_true rfl⟩) 0 4 cg_0 rfl rfl rfl rfl (Nat.le_of_ble_eq_true rfl) dX4_wind_10 (fun r5 u4 hp => ?_)
    refine ww_if_eq X (tgt := 43) dX4_wind_13 (by decide) (fun h6 => ?_) (fun h6 => ?_)
    · have hp := hp.1 h6
      exact ww_sub (lv' := [(0, .ref (ad 0))]) [0] rfl (wX4_wind_b43 X   u4 hp)
    · have hp := hp.2 h6
      refine ww_aload_n X dX4_wind_16 0 rfl ?_
      refine ww_iload X dX4_wind_17 4 rfl ?_
      refine ww_callV_i X (As := [.int a4]) (rest := []) (kX4_isWind l D ad cB cI cZ a4 u4 _ hp) (cwV 1 X.hts gX4_wind_X4_isWind rfl rfl rfl hd_X4_isWind ⟨Nat.le_of_ble_eq_true rfl, Nat.le_of_ble_eq_true rfl⟩) 0 4 cg_0 rfl rfl rfl rfl (Nat.le_of_ble_eq_true rfl) dX4_wind_19 (fun r8 u7 hp => ?_)
      refine ww_if_eq X (tgt := 43) dX4_wind_22 (by decide) (fun h9 => ?_) (fun h9 => ?_)
      · have hp := hp.1 h9
        exact ww_sub (lv' := [(0, .ref (ad 0))]) [0] rfl (wX4_wind_b43 X   u7 hp)
      · have hp := hp.2 h9
        refine ww_aload_n X dX4_wind_25 0 rfl ?_
        refine ww_iload X dX4_wind_26 5 rfl ?_
        refine ww_callV_i X (As := [.int a5]) (rest := []) (kX4_isWind l D ad cB cI cZ a5 u7 _ hp) (cwV 1 X.hts gX4_wind_X4_isWind rfl rfl rfl hd_X4_isWind ⟨Nat.le_of_ble_eq_true rfl, Nat.le_of_ble_eq_true rfl⟩) 0 4 cg_0 rfl rfl rfl rfl (Nat.le_of_ble_eq_true rfl) dX4_wind_28 (fun r11 u10 hp => ?_)
        refine ww_if_eq X (tgt := 43) dX4_wind_31 (by decide) (fun h12 => ?_) (fun h12 => ?_)
        · have hp := hp.1 h12
          exact ww_sub (lv' := [(0, .ref (ad 0))]) [0] rfl (wX4_wind_b43 X   u10 hp)
        · have hp := hp.2 h12
          refine ww_aload_n X dX4_wind_34 0 rfl ?_
          refine ww_iload X dX4_wind_35 6 rfl ?_
          refine ww_callV_i X (As := [.int a6]) (rest := []) (kX4_isWind l D ad cB cI cZ a6 u10 _ hp) (cwV 1 X.hts gX4_wind_X4_isWind rfl rfl rfl hd_X4_isWind ⟨Nat.le_of_ble_eq_true rfl, Nat.le_of_ble_eq_true rfl⟩) 0 4 cg_0 rfl rfl rfl rfl (Nat.le_of_ble_eq_true rfl) dX4_wind_37 (fun r14 u13 hp => ?_)
          refine ww_if_ne X (tgt := 47) dX4_wind_40 (by decide) (fun h15 => ?_) (fun h15 => ?_)
          · have hp := hp.1 h15
            refine ww_aload_n X dX4_wind_47 0 rfl ?_
            refine ww_iconst X (v := 1) dX4_wind_48 (by decide) ?_
            refine ww_iload_n X dX4_wind_49 1 rfl ?_
            refine ww_iload_n X dX4_wind_50 2 rfl ?_
            refine ww_iload_n X dX4_wind_51 3 rfl ?_
            refine ww_iload X dX4_wind_52 4 rfl ?_
            refine ww_iload X dX4_wind_54 5 rfl ?_
            refine ww_iload X dX4_wind_56 6 rfl ?_
            refine ww_callV_i X (As := [.int 1, .int a1, .int a2, .int a3, .int a4, .int a5, .int a6]) (rest := []) (kX4_addToJump l D ad cB cI cZ 1 a1 a2 a3 a4 a5 a6 u13 _ hp) (cwV 7 X.hts gX4_wind_X4_addToJump rfl rfl rfl hd_X4_addToJump ⟨Nat.le_of_ble_eq_true rfl, Nat.le_of_ble_eq_true rfl⟩) 0 4 cg_0 rfl rfl rfl rfl (Nat.le_of_ble_eq_true rfl) dX4_wind_58 (fun r17 u16 hp => ?_)
            exact ww_iret X hp dX4_wind_61
          · have hp := hp.2 h15
            exact ww_sub (lv' := [(0, .ref (ad 0))]) [0] rfl (wX4_wind_b43 X   u13 hp)
set_option maxHeartbeats 4000000 in
set_option maxRecDepth 100000 in
theorem wX4_isMark_b15 {p : Program} {l : Launch} {e : Env} {s : State} {m : MethodId} {args : Array Value} {below : List Frame} {meth : Method} {c : Code} {D : va_G} {A : Nat → Prop} {ad : Nat → Nat} {cB cI cZ : ClassId} {post : Int32 → Sg → Prop}  (X : Cx p s m args meth c cX4_isMark 2 (some .boolean) RX4 wsX4_isMark D (tyL cB cI cZ) A)  (y0 : Int32) (z : Sg) (hp : pX4_isMark_b15  post y0 z) : WW p l e rmX4_isMark s m args below meth c 2 D A (cW ad cB cI cZ) (QI below args s D (tyL cB cI cZ) (cW ad cB cI cZ) A post) z 15 [(0, .ref (ad 0))] [.int y0] := by
  unfold pX4_isMark_b15 at hp
  exact ww_zret X hp.1 hp.2 dX4_isMark_15
set_option maxHeartbeats 4000000 in
set_option maxRecDepth 100000 in
theorem wX4_isMark_b14 {p : Program} {l : Launch} {e : Env} {s : State} {m : MethodId} {args : Array Value} {below : List Frame} {meth : Method} {c : Code} {D : va_G} {A : Nat → Prop} {ad : Nat → Nat} {cB cI cZ : ClassId} {post : Int32 → Sg → Prop}  (X : Cx p s m args meth c cX4_isMark 2 (some .boolean) RX4 wsX4_isMark D (tyL cB cI cZ) A)  (z : Sg) (hp : pX4_isMark_b14  post  z) : WW p l e rmX4_isMark s m args below meth c 2 D A (cW ad cB cI cZ) (QI below args s D (tyL cB cI cZ) (cW ad cB cI cZ) A post) z 14 [(0, .ref (ad 0))] [] := by
  unfold pX4_isMark_b14 at hp
  refine ww_iconst X (v := 0) dX4_isMark_14 (by decide) ?_
  exact wX4_isMark_b15 X  0 z hp
set_option maxHeartbeats 4000000 in
set_option maxRecDepth 100000 in
theorem kX4_isMark (l : Launch) (D : va_G) (ad : Nat → Nat) (cB cI cZ : ClassId) (a1 : Int32) (z : Sg) (post : Int32 → Sg → Prop) (hp : pX4_isMark a1 z post) : Ci l D (tyL cB cI cZ) (cW ad cB cI cZ) yX4_isMark wsX4_isMark rmX4_isMark [.ref (ad 0), .int a1] z post := by
  refine Ci.of (cc := cX4_isMark) (maxL := 2) (ret := (some .boolean)) (by decide) rfl (Nat.le_of_ble_eq_true rfl) ?_
  intro p e s m args below meth c A X
  have X : Cx p s m args meth c cX4_isMark 2 (some .boolean) RX4 wsX4_isMark D (tyL cB cI cZ) A := X
  show WW p l e rmX4_isMark s m args below meth c 2 D A (cW ad cB cI cZ) (QI below args s D (tyL cB cI cZ) (cW ad cB cI cZ) A post) z 0 [(0, .ref (ad 0)), (1, .int a1)] []
  unfold pX4_isMark at hp
  refine ww_iload_n X dX4_isMark_0 1 rfl ?_
  refine ww_if_lt X (tgt := 14) dX4_isMark_1 (by decide) (fun h1 => ?_) (fun h1 => ?_)
  · have hp := hp.1 h1
    exact ww_sub (lv' := [(0, .ref (ad 0))]) [0] rfl (wX4_isMark_b14 X   z hp)
  · have hp := hp.2 h1
    refine ww_iload_n X dX4_isMark_4 1 rfl ?_
    refine ww_bipush X (v := 40) dX4_isMark_5 (by decide) ?_
    refine ww_icmp_gt X (tgt := 14) dX4_isMark_7 (by decide) (fun h2 => ?_) (fun h2 => ?_)
    · have hp := hp.1 h2
      exact ww_sub (lv' := [(0, .ref (ad 0))]) [0] rfl (wX4_isMark_b14 X   z hp)
    · have hp := hp.2 h2
      refine ww_iconst X (v := 1) dX4_isMark_10 (by decide) ?_
      refine ww_goto X (tgt := 15) dX4_isMark_11 (by decide) ?_
      exact ww_sub (lv' := [(0, .ref (ad 0))]) [0] rfl (wX4_isMark_b15 X  1 z hp)
set_option maxHeartbeats 4000000 in
set_option maxRecDepth 100000 in
theorem wX4_style_b43 {p : Program} {l : Launch} {e : Env} {s : State} {m : MethodId} {args : Array Value} {below : List Frame} {meth : Method} {c : Code} {D : va_G} {A : Nat → Prop} {ad : Nat → Nat} {cB cI cZ : ClassId} {post : Int32 → Sg → Prop}  (X : Cx p s m args meth c cX4_style 7 (some .int) RX4 wsX4_style D (tyL cB cI cZ) A)  (z : Sg) (hp : pX4_style_b43  post  z) : WW p l e rmX4_style s m args below meth c 7 D A (cW ad cB cI cZ) (QI below args s D (tyL cB cI cZ) (cW ad cB cI cZ) A post) z 43 [(0, .ref (ad 0))] [] := by
  unfold pX4_style_b43 at hp
  refine ww_sipush X (v := (-10000)) dX4_style_43 (by decide) ?_
  exact ww_iret X hp dX4_style_46
set_option maxHeartbeats 4000000 in
set_option maxRecDepth 100000 in
theorem kX4_style (l : Launch) (D : va_G) (ad : Nat → Nat) (cB cI cZ : ClassId) (a1 a2 a3 a4 a5 a6 : Int32) (z : Sg) (post : Int32 → Sg → Prop) (hp : pX4_style a1 a2 a3 a4 a5 a6 z post) : Ci l D (tyL cB cI cZ) (cW ad cB cI cZ) yX4_style wsX4_style rmX4_style [.ref (ad 0), .int a1, .int a2, .int a3, .int a4, .int a5, .int a6] z post := by
  refine Ci.of (cc := cX4_style) (maxL := 7) (ret := (some .int)) (by decide) rfl (Nat.le_of_ble_eq_true rfl) ?_
  intro p e s m args below meth c A X
  have X : Cx p s m args meth c cX4_style 7 (some .int) RX4 wsX4_style D (tyL cB cI cZ) A := X
  show WW p l e rmX4_style s m args below meth c 7 D A (cW ad cB cI cZ) (QI below args s D (tyL cB cI cZ) (cW ad cB cI cZ) A post) z 0 [(0, .ref (ad 0)), (1, .int a1), (2, .int a2), (3, .int a3), (4, .int a4), (5, .int a5), (6, .int a6)] []
  unfold pX4_style at hp
  refine ww_aload_n X dX4_style_0 0 rfl ?_
  refine ww_iload_n X dX4_style_1 2 rfl ?_
  refine ww_callV_i X (As := [.int a2]) (rest := []) (kX4_isMark l D ad cB cI cZ a2 z _ hp) (cwV 1 X.hts gX4_style_X4_isMark rfl rfl rfl hd_X4_isMark ⟨Nat.le_of_ble_eq_true rfl, Nat.le_of_ble_eq_true rfl⟩) 0 4 cg_0 rfl rfl rfl rfl (Nat.le_of_ble_eq_true rfl) dX4_style_2 (fun r2 u1 hp => ?_)
  refine ww_if_eq X (tgt := 43) dX4_style_5 (by decide) (fun h3 => ?_) (fun h3 => ?_)
  · have hp := hp.1 h3
    exact ww_sub (lv' := [(0, .ref (ad 0))]) [0] rfl (wX4_style_b43 X   u1 hp)
  · have hp := hp.2 h3
    refine ww_aload_n X dX4_style_8 0 rfl ?_
    refine ww_iload_n X dX4_style_9 3 rfl ?_
    refine ww_callV_i X (As := [.int a3]) (rest := []) (kX4_isMark l D ad cB cI cZ a3 u1 _ hp) (cwV 1 X.hts gX4_style_X4_isMark rfl rfl rfl hd_X4_isMark ⟨Nat.le_of_ble_eq_true rfl, Nat.le_of_ble_eq_true rfl⟩) 0 4 cg_0 rfl rfl rfl rfl (Nat.le_of_ble_eq_true rfl) dX4_style_10 (fun r5 u4 hp => ?_)
    refine ww_if_eq X (tgt := 43) dX4_style_13 (by decide) (fun h6 => ?_) (fun h6 => ?_)
    · have hp := hp.1 h6
      exact ww_sub (lv' := [(0, .ref (ad 0))]) [0] rfl (wX4_style_b43 X   u4 hp)
    · have hp := hp.2 h6
      refine ww_aload_n X dX4_style_16 0 rfl ?_
      refine ww_iload X dX4_style_17 4 rfl ?_
      refine ww_callV_i X (As := [.int a4]) (rest := []) (kX4_isMark l D ad cB cI cZ a4 u4 _ hp) (cwV 1 X.hts gX4_style_X4_isMark rfl rfl rfl hd_X4_isMark ⟨Nat.le_of_ble_eq_true rfl, Nat.le_of_ble_eq_true rfl⟩) 0 4 cg_0 rfl rfl rfl rfl (Nat.le_of_ble_eq_true rfl) dX4_style_19 (fun r8 u7 hp => ?_)
      refine ww_if_eq X (tgt := 43) dX4_style_22 (by decide) (fun h9 => ?_) (fun h9 => ?_)
      · have hp := hp.1 h9
        exact ww_sub (lv' := [(0, .ref (ad 0))]) [0] rfl (wX4_style_b43 X   u7 hp)
      · have hp := hp.2 h9
        refine ww_aload_n X dX4_style_25 0 rfl ?_
        refine ww_iload X dX4_style_26 5 rfl ?_
        refine ww_callV_i X (As := [.int a5]) (rest := []) (kX4_isMark l D ad cB cI cZ a5 u7 _ hp) (cwV 1 X.hts gX4_style_X4_isMark rfl rfl rfl hd_X4_isMark ⟨Nat.le_of_ble_eq_true rfl, Nat.le_of_ble_eq_true rfl⟩) 0 4 cg_0 rfl rfl rfl rfl (Nat.le_of_ble_eq_true rfl) dX4_style_28 (fun r11 u10 hp => ?_)
        refine ww_if_eq X (tgt := 43) dX4_style_31 (by decide) (fun h12 => ?_) (fun h12 => ?_)
        · have hp := hp.1 h12
          exact ww_sub (lv' := [(0, .ref (ad 0))]) [0] rfl (wX4_style_b43 X   u10 hp)
        · have hp := hp.2 h12
          refine ww_aload_n X dX4_style_34 0 rfl ?_
          refine ww_iload X dX4_style_35 6 rfl ?_
          refine ww_callV_i X (As := [.int a6]) (rest := []) (kX4_isMark l D ad cB cI cZ a6 u10 _ hp) (cwV 1 X.hts gX4_style_X4_isMark rfl rfl rfl hd_X4_isMark ⟨Nat.le_of_ble_eq_true rfl, Nat.le_of_ble_eq_true rfl⟩) 0 4 cg_0 rfl rfl rfl rfl (Nat.le_of_ble_eq_true rfl) dX4_style_37 (fun r14 u13 hp => ?_)
          refine ww_if_ne X (tgt := 47) dX4_style_40 (by decide) (fun h15 => ?_) (fun h15 => ?_)
          · have hp := hp.1 h15
            refine ww_aload_n X dX4_style_47 0 rfl ?_
            refine ww_iconst X (v := 2) dX4_style_48 (by decide) ?_
            refine ww_iload_n X dX4_style_49 1 rfl ?_
            refine ww_iload_n X dX4_style_50 2 rfl ?_
            refine ww_iload_n X dX4_style_51 3 rfl ?_
            refine ww_iload X dX4_style_52 4 rfl ?_
            refine ww_iload X dX4_style_54 5 rfl ?_
            refine ww_iload X dX4_style_56 6 rfl ?_
            refine ww_callV_i X (As := [.int 2, .int a1, .int a2, .int a3, .int a4, .int a5, .int a6]) (rest := []) (kX4_addToJump l D ad cB cI cZ 2 a1 a2 a3 a4 a5 a6 u13 _ hp) (cwV 7 X.hts gX4_style_X4_addToJump rfl rfl rfl hd_X4_addToJump ⟨Nat.le_of_ble_eq_true rfl, Nat.le_of_ble_eq_true rfl⟩) 0 4 cg_0 rfl rfl rfl rfl (Nat.le_of_ble_eq_true rfl) dX4_style_58 (fun r17 u16 hp => ?_)
            exact ww_iret X hp dX4_style_61
          · have hp := hp.2 h15
            exact ww_sub (lv' := [(0, .ref (ad 0))]) [0] rfl (wX4_style_b43 X   u13 hp)
set_option maxHeartbeats 4000000 in
set_option maxRecDepth 100000 in
theorem wX4_strike_b80 {p : Program} {l : Launch} {e : Env} {s : State} {m : MethodId} {args : Array Value} {below : List Frame} {meth : Method} {c : Code} {D : va_G} {A : Nat → Prop} {ad : Nat → Nat} {cB cI cZ : ClassId} {post : Int32 → Sg → Prop}  (X : Cx p s m args meth c cX4_strike 5 (some .int) RX4 wsX4_strike D (tyL cB cI cZ) A)  (y0 y1 y2 : Int32) (z : Sg) (hp : pX4_strike_b80  post y0 y1 y2 z) : WW p l e rmX4_strike s m args below meth c 5 D A (cW ad cB cI cZ) (QI below args s D (tyL cB cI cZ) (cW ad cB cI cZ) A post) z 80 [(0, .ref (ad 0))] [.int y0, .int y1, .int y2, .ref (ad 6)] := by
  unfold pX4_strike_b80 at hp
  refine ww_iconst X (v := 0) dX4_strike_80 (by decide) ?_
  refine ww_iconst X (v := 0) dX4_strike_81 (by decide) ?_
  refine ww_iconst X (v := 0) dX4_strike_82 (by decide) ?_
  refine ww_iconst X (v := 0) dX4_strike_83 (by decide) ?_
  refine ww_callN_i X (As := [.int y2, .int y1, .int y0, .int 0, .int 0, .int 0, .int 0]) (rest := []) (kX1_add l D ad cB cI cZ y2 y1 y0 0 0 0 0 z _ hp) (⟨va_cnB 7 X.hts gX4_strike_X1_add_n102 rfl rfl rfl (X.hE.2 _ (List.mem_of_getElem? (i := 15) rfl)) (X.wd 33 rfl) hn_X1_add ⟨Nat.le_of_ble_eq_true rfl, Nat.le_of_ble_eq_true rfl⟩, (X.wd 37 rfl), (X.wd 38 rfl)⟩) 6 1 cg_6 rfl rfl rfl rfl (Nat.le_of_ble_eq_true rfl) dX4_strike_84 (fun r2 u1 hp => ?_)
  exact ww_iret X hp dX4_strike_87
set_option maxHeartbeats 4000000 in
set_option maxRecDepth 100000 in
theorem wX4_strike_b16 {p : Program} {l : Launch} {e : Env} {s : State} {m : MethodId} {args : Array Value} {below : List Frame} {meth : Method} {c : Code} {D : va_G} {A : Nat → Prop} {ad : Nat → Nat} {cB cI cZ : ClassId} {post : Int32 → Sg → Prop}  (X : Cx p s m args meth c cX4_strike 5 (some .int) RX4 wsX4_strike D (tyL cB cI cZ) A)  (z : Sg) (hp : pX4_strike_b16  post  z) : WW p l e rmX4_strike s m args below meth c 5 D A (cW ad cB cI cZ) (QI below args s D (tyL cB cI cZ) (cW ad cB cI cZ) A post) z 16 [(0, .ref (ad 0))] [] := by
  unfold pX4_strike_b16 at hp
  refine ww_sipush X (v := (-10000)) dX4_strike_16 (by decide) ?_
  exact ww_iret X hp dX4_strike_19
set_option maxHeartbeats 4000000 in
set_option maxRecDepth 100000 in
theorem kX4_strike (l : Launch) (D : va_G) (ad : Nat → Nat) (cB cI cZ : ClassId) (a1 a2 a3 : Int32) (z : Sg) (post : Int32 → Sg → Prop) (hp : pX4_strike a1 a2 a3 z post) : Ci l D (tyL cB cI cZ) (cW ad cB cI cZ) yX4_strike wsX4_strike rmX4_strike [.ref (ad 0), .int a1, .int a2, .int a3] z post := by
  refine Ci.of (cc := cX4_strike) (maxL := 5) (ret := (some .int)) (by decide) rfl (Nat.le_of_ble_eq_true rfl) ?_
  intro p e s m args below meth c A X
  have X : Cx p s m args meth c cX4_strike 5 (some .int) RX4 wsX4_strike D (tyL cB cI cZ) A := X
  show WW p l e rmX4_strike s m args below meth c 5 D A (cW ad cB cI cZ) (QI below args s D (tyL cB cI cZ) (cW ad cB cI cZ) A post) z 0 [(0, .ref (ad 0)), (1, .int a1), (2, .int a2), (3, .int a3)] []
  unfold pX4_strike at hp
  refine ww_aload_n X dX4_strike_0 0 rfl ?_
  refine ww_iload_n X dX4_strike_1 1 rfl ?_
  refine ww_callV_i X (As := [.int a1]) (rest := []) (kX4_isJumper l D ad cB cI cZ a1 z _ hp) (cwV 1 X.hts gX4_strike_X4_isJumper rfl rfl rfl hd_X4_isJumper ⟨Nat.le_of_ble_eq_true rfl, Nat.le_of_ble_eq_true rfl⟩) 0 4 cg_0 rfl rfl rfl rfl (Nat.le_of_ble_eq_true rfl) dX4_strike_2 (fun r2 u1 hp => ?_)
  refine ww_if_eq X (tgt := 16) dX4_strike_5 (by decide) (fun h3 => ?_) (fun h3 => ?_)
  · have hp := hp.1 h3
    exact ww_sub (lv' := [(0, .ref (ad 0))]) [0] rfl (wX4_strike_b16 X   u1 hp)
  · have hp := hp.2 h3
    refine ww_aload_n X dX4_strike_8 0 rfl ?_
    refine ww_iload_n X dX4_strike_9 2 rfl ?_
    refine ww_callV_i X (As := [.int a2]) (rest := []) (kX4_isRound l D ad cB cI cZ a2 u1 _ hp) (cwV 1 X.hts gX4_strike_X4_isRound rfl rfl rfl hd_X4_isRound ⟨Nat.le_of_ble_eq_true rfl, Nat.le_of_ble_eq_true rfl⟩) 0 4 cg_0 rfl rfl rfl rfl (Nat.le_of_ble_eq_true rfl) dX4_strike_10 (fun r5 u4 hp => ?_)
    refine ww_if_ne X (tgt := 20) dX4_strike_13 (by decide) (fun h6 => ?_) (fun h6 => ?_)
    · have hp := hp.1 h6
      refine ww_iload_n X dX4_strike_20 1 rfl ?_
      refine ww_iload_n X dX4_strike_21 2 rfl ?_
      refine ww_callS_i X (As := [.int a1, .int a2]) (rest := []) (kX4_jumpOf l D ad cB cI cZ a1 a2 u4 _ hp) (va_cwS 2 X.hts gX4_strike_X4_jumpOf rfl rfl rfl hn_X4_jumpOf ⟨Nat.le_of_ble_eq_true rfl, Nat.le_of_ble_eq_true rfl⟩) rfl rfl (Nat.le_of_ble_eq_true rfl) dX4_strike_22 (fun r8 u7 hp => ?_)
      refine ww_istore X (lv' := [(4, .int r8), (0, .ref (ad 0)), (1, .int a1), (2, .int a2), (3, .int a3)]) dX4_strike_25 (by decide) rfl ?_
      refine ww_aload_n X dX4_strike_27 1 rfl ?_
      refine ww_get X in_X4_strike_X4 0 cg_0 rfl 2 (by decide) (X.wd 1 rfl) (v := .ref (ad 2)) rfl dX4_strike_28 ?_
      refine ww_aload_n X dX4_strike_31 1 rfl ?_
      refine ww_get X in_X4_strike_X4 0 cg_0 rfl 2 (by decide) (X.wd 1 rfl) (v := .ref (ad 2)) rfl dX4_strike_32 ?_
      refine ww_getN X in_X4_strike_X3 2 cg_2 rfl 1 (by decide) (X.nest 11 rfl) (v := .ref (ad 6)) rfl dX4_strike_35 ?_
      refine ww_getN X in_X4_strike_X1 6 cg_6 rfl 3 (by decide) (X.nest 0 rfl) (v := .int (u7.1 11)) rfl dX4_strike_38 ?_
      refine ww_callN_v X (As := [.int (u7.1 11)]) (rest := []) (kX3_know l D ad cB cI cZ (u7.1 11) u7 _ hp) (⟨va_cnB 1 X.hts gX4_strike_X3_know_n118 rfl rfl rfl (X.hE.2 _ (List.mem_of_getElem? (i := 16) rfl)) (X.wd 16 rfl) hn_X3_know ⟨Nat.le_of_ble_eq_true rfl, Nat.le_of_ble_eq_true rfl⟩, (X.wd 15 rfl), (X.wd 17 rfl)⟩) 2 3 cg_2 rfl rfl rfl rfl (Nat.le_of_ble_eq_true rfl) dX4_strike_41 (fun u9 hp => ?_)
      refine ww_aload_n X dX4_strike_44 1 rfl ?_
      refine ww_get X in_X4_strike_X4 0 cg_0 rfl 2 (by decide) (X.wd 1 rfl) (v := .ref (ad 2)) rfl dX4_strike_45 ?_
      refine ww_iload X dX4_strike_48 0 rfl ?_
      refine ww_callN_i X (As := [.int r8]) (rest := []) (kX3_isStruck l D ad cB cI cZ r8 u9 _ hp) (⟨va_cnB 1 X.hts gX4_strike_X3_isStruck_n121 rfl rfl rfl (X.hE.2 _ (List.mem_of_getElem? (i := 17) rfl)) (X.wd 16 rfl) hn_X3_isStruck ⟨Nat.le_of_ble_eq_true rfl, Nat.le_of_ble_eq_true rfl⟩, (X.wd 25 rfl), (X.wd 26 rfl)⟩) 2 3 cg_2 rfl rfl rfl rfl (Nat.le_of_ble_eq_true rfl) dX4_strike_50 (fun r12 u11 hp => ?_)
      refine ww_iload_n X dX4_strike_53 4 rfl ?_
      refine ww_icmp_ne X (tgt := 61) dX4_strike_54 (by decide) (fun h13 => ?_) (fun h13 => ?_)
      · have hp := hp.1 h13
        refine ww_aload_n X dX4_strike_61 1 rfl ?_
        refine ww_get X in_X4_strike_X4 0 cg_0 rfl 2 (by decide) (X.wd 1 rfl) (v := .ref (ad 2)) rfl dX4_strike_62 ?_
        refine ww_getN X in_X4_strike_X3 2 cg_2 rfl 1 (by decide) (X.nest 11 rfl) (v := .ref (ad 6)) rfl dX4_strike_65 ?_
        refine ww_iconst X (v := 3) dX4_strike_68 (by decide) ?_
        refine ww_iload X dX4_strike_69 0 rfl ?_
        refine ww_iload_n X dX4_strike_71 4 rfl ?_
        refine ww_if_eq X (tgt := 79) dX4_strike_72 (by decide) (fun h14 => ?_) (fun h14 => ?_)
        · have hp := hp.1 h14
          refine ww_iconst X (v := 0) dX4_strike_79 (by decide) ?_
          exact ww_sub (lv' := [(0, .ref (ad 0))]) [1] rfl (wX4_strike_b80 X  0 r8 3 u11 hp)
        · have hp := hp.2 h14
          refine ww_iconst X (v := 1) dX4_strike_75 (by decide) ?_
          refine ww_goto X (tgt := 80) dX4_strike_76 (by decide) ?_
          exact ww_sub (lv' := [(0, .ref (ad 0))]) [1] rfl (wX4_strike_b80 X  1 r8 3 u11 hp)
      · have hp := hp.2 h13
        refine ww_sipush X (v := (-10000)) dX4_strike_57 (by decide) ?_
        exact ww_iret X hp dX4_strike_60
    · have hp := hp.2 h6
      exact ww_sub (lv' := [(0, .ref (ad 0))]) [0] rfl (wX4_strike_b16 X   u4 hp)
set_option maxHeartbeats 4000000 in
set_option maxRecDepth 100000 in
theorem wX4_isKnowing_b23 {p : Program} {l : Launch} {e : Env} {s : State} {m : MethodId} {args : Array Value} {below : List Frame} {meth : Method} {c : Code} {D : va_G} {A : Nat → Prop} {ad : Nat → Nat} {cB cI cZ : ClassId} {post : Int32 → Sg → Prop}  (X : Cx p s m args meth c cX4_isKnowing 2 (some .boolean) RX4 wsX4_isKnowing D (tyL cB cI cZ) A)  (y0 : Int32) (z : Sg) (hp : pX4_isKnowing_b23  post y0 z) : WW p l e rmX4_isKnowing s m args below meth c 2 D A (cW ad cB cI cZ) (QI below args s D (tyL cB cI cZ) (cW ad cB cI cZ) A post) z 23 [(0, .ref (ad 0))] [.int y0] := by
  unfold pX4_isKnowing_b23 at hp
  exact ww_zret X hp.1 hp.2 dX4_isKnowing_23
set_option maxHeartbeats 4000000 in
set_option maxRecDepth 100000 in
theorem wX4_isKnowing_b22 {p : Program} {l : Launch} {e : Env} {s : State} {m : MethodId} {args : Array Value} {below : List Frame} {meth : Method} {c : Code} {D : va_G} {A : Nat → Prop} {ad : Nat → Nat} {cB cI cZ : ClassId} {post : Int32 → Sg → Prop}  (X : Cx p s m args meth c cX4_isKnowing 2 (some .boolean) RX4 wsX4_isKnowing D (tyL cB cI cZ) A)  (z : Sg) (hp : pX4_isKnowing_b22  post  z) : WW p l e rmX4_isKnowing s m args below meth c 2 D A (cW ad cB cI cZ) (QI below args s D (tyL cB cI cZ) (cW ad cB cI cZ) A post) z 22 [(0, .ref (ad 0))] [] := by
  unfold pX4_isKnowing_b22 at hp
  refine ww_iconst X (v := 0) dX4_isKnowing_22 (by decide) ?_
  exact wX4_isKnowing_b23 X  0 z hp
set_option maxHeartbeats 4000000 in
set_option maxRecDepth 100000 in
theorem kX4_isKnowing (l : Launch) (D : va_G) (ad : Nat → Nat) (cB cI cZ : ClassId) (a1 : Int32) (z : Sg) (post : Int32 → Sg → Prop) (hp : pX4_isKnowing a1 z post) : Ci l D (tyL cB cI cZ) (cW ad cB cI cZ) yX4_isKnowing wsX4_isKnowing rmX4_isKnowing [.ref (ad 0), .int a1] z post := by
  refine Ci.of (cc := cX4_isKnowing) (maxL := 2) (ret := (some .boolean)) (by decide) rfl (Nat.le_of_ble_eq_true rfl) ?_
  intro p e s m args below meth c A X
  have X : Cx p s m args meth c cX4_isKnowing 2 (some .boolean) RX4 wsX4_isKnowing D (tyL cB cI cZ) A := X
  show WW p l e rmX4_isKnowing s m args below meth c 2 D A (cW ad cB cI cZ) (QI below args s D (tyL cB cI cZ) (cW ad cB cI cZ) A post) z 0 [(0, .ref (ad 0)), (1, .int a1)] []
  unfold pX4_isKnowing at hp
  refine ww_iload_n X dX4_isKnowing_0 1 rfl ?_
  refine ww_if_lt X (tgt := 22) dX4_isKnowing_1 (by decide) (fun h1 => ?_) (fun h1 => ?_)
  · have hp := hp.1 h1
    exact ww_sub (lv' := [(0, .ref (ad 0))]) [0] rfl (wX4_isKnowing_b22 X   z hp)
  · have hp := hp.2 h1
    refine ww_iload_n X dX4_isKnowing_4 1 rfl ?_
    refine ww_aload_n X dX4_isKnowing_5 0 rfl ?_
    refine ww_get X in_X4_isKnowing_X4 0 cg_0 rfl 2 (by decide) (X.wd 1 rfl) (v := .ref (ad 2)) rfl dX4_isKnowing_6 ?_
    refine ww_getN X in_X4_isKnowing_X3 2 cg_2 rfl 1 (by decide) (X.nest 11 rfl) (v := .ref (ad 6)) rfl dX4_isKnowing_9 ?_
    refine ww_getN X in_X4_isKnowing_X1 6 cg_6 rfl 3 (by decide) (X.nest 0 rfl) (v := .int (z.1 11)) rfl dX4_isKnowing_12 ?_
    refine ww_icmp_gt X (tgt := 22) dX4_isKnowing_15 (by decide) (fun h2 => ?_) (fun h2 => ?_)
    · have hp := hp.1 h2
      exact ww_sub (lv' := [(0, .ref (ad 0))]) [0] rfl (wX4_isKnowing_b22 X   z hp)
    · have hp := hp.2 h2
      refine ww_iconst X (v := 1) dX4_isKnowing_18 (by decide) ?_
      refine ww_goto X (tgt := 23) dX4_isKnowing_19 (by decide) ?_
      exact ww_sub (lv' := [(0, .ref (ad 0))]) [0] rfl (wX4_isKnowing_b23 X  1 z hp)
set_option maxHeartbeats 4000000 in
set_option maxRecDepth 100000 in
theorem kX4_partOfPoints (l : Launch) (D : va_G) (ad : Nat → Nat) (cB cI cZ : ClassId) (a1 : Int32) (z : Sg) (post : Int32 → Sg → Prop) (hp : pX4_partOfPoints a1 z post) : Ci l D (tyL cB cI cZ) (cW ad cB cI cZ) yX4_partOfPoints wsX4_partOfPoints rmX4_partOfPoints [.ref (ad 0), .int a1] z post := by
  refine Ci.of (cc := cX4_partOfPoints) (maxL := 2) (ret := (some .int)) (by decide) rfl (Nat.le_of_ble_eq_true rfl) ?_
  intro p e s m args below meth c A X
  have X : Cx p s m args meth c cX4_partOfPoints 2 (some .int) RX4 wsX4_partOfPoints D (tyL cB cI cZ) A := X
  show WW p l e rmX4_partOfPoints s m args below meth c 2 D A (cW ad cB cI cZ) (QI below args s D (tyL cB cI cZ) (cW ad cB cI cZ) A post) z 0 [(0, .ref (ad 0)), (1, .int a1)] []
  unfold pX4_partOfPoints at hp
  refine ww_iload_n X dX4_partOfPoints_0 1 rfl ?_
  rcases Classical.em (a1 = 0) with h1 | h1
  · have hp := hp.1 h1
    refine ww_tin X (0) (off := 43) (tgt := 44) dX4_partOfPoints_1 h1 (by decide) (by decide) (by decide) (by decide) ?_
    refine ww_aload_n X dX4_partOfPoints_44 0 rfl ?_
    refine ww_get X in_X4_partOfPoints_X4 0 cg_0 rfl 2 (by decide) (X.wd 1 rfl) (v := .ref (ad 2)) rfl dX4_partOfPoints_45 ?_
    refine ww_callN_i X (As := []) (rest := []) (kX3_sum l D ad cB cI cZ  z _ hp) (⟨va_cnB 0 X.hts gX4_partOfPoints_X3_sum_n189 rfl rfl rfl (X.hE.2 _ (List.mem_of_getElem? (i := 29) rfl)) (X.wd 3 rfl) hn_X3_sum ⟨Nat.le_of_ble_eq_true rfl, Nat.le_of_ble_eq_true rfl⟩, (X.wd 2 rfl), (X.wd 4 rfl)⟩) 2 3 cg_2 rfl rfl rfl rfl (Nat.le_of_ble_eq_true rfl) dX4_partOfPoints_48 (fun r3 u2 hp => ?_)
    exact ww_iret X hp dX4_partOfPoints_51
  have hp := hp.2 h1
  rcases Classical.em (a1 = 1) with h4 | h4
  · have hp := hp.1 h4
    refine ww_tin X (1) (off := 51) (tgt := 52) dX4_partOfPoints_1 h4 (by decide) (by decide) (by decide) (by decide) ?_
    refine ww_aload_n X dX4_partOfPoints_52 0 rfl ?_
    refine ww_get X in_X4_partOfPoints_X4 0 cg_0 rfl 2 (by decide) (X.wd 1 rfl) (v := .ref (ad 2)) rfl dX4_partOfPoints_53 ?_
    refine ww_getN X in_X4_partOfPoints_X3 2 cg_2 rfl 5 (by decide) (X.nest 4 rfl) (v := .int (z.1 6)) rfl dX4_partOfPoints_56 ?_
    exact ww_iret X hp dX4_partOfPoints_59
  have hp := hp.2 h4
  rcases Classical.em (a1 = 2) with h5 | h5
  · have hp := hp.1 h5
    refine ww_tin X (2) (off := 59) (tgt := 60) dX4_partOfPoints_1 h5 (by decide) (by decide) (by decide) (by decide) ?_
    refine ww_aload_n X dX4_partOfPoints_60 0 rfl ?_
    refine ww_get X in_X4_partOfPoints_X4 0 cg_0 rfl 2 (by decide) (X.wd 1 rfl) (v := .ref (ad 2)) rfl dX4_partOfPoints_61 ?_
    refine ww_getN X in_X4_partOfPoints_X3 2 cg_2 rfl 6 (by decide) (X.nest 5 rfl) (v := .int (z.1 7)) rfl dX4_partOfPoints_64 ?_
    exact ww_iret X hp dX4_partOfPoints_67
  have hp := hp.2 h5
  rcases Classical.em (a1 = 3) with h6 | h6
  · have hp := hp.1 h6
    refine ww_tin X (3) (off := 67) (tgt := 68) dX4_partOfPoints_1 h6 (by decide) (by decide) (by decide) (by decide) ?_
    refine ww_aload_n X dX4_partOfPoints_68 0 rfl ?_
    refine ww_get X in_X4_partOfPoints_X4 0 cg_0 rfl 2 (by decide) (X.wd 1 rfl) (v := .ref (ad 2)) rfl dX4_partOfPoints_69 ?_
    refine ww_getN X in_X4_partOfPoints_X3 2 cg_2 rfl 7 (by decide) (X.nest 6 rfl) (v := .int (z.1 8)) rfl dX4_partOfPoints_72 ?_
    exact ww_iret X hp dX4_partOfPoints_75
  have hp := hp.2 h6
  rcases Classical.em (a1 = 4) with h7 | h7
  · have hp := hp.1 h7
    refine ww_tin X (4) (off := 75) (tgt := 76) dX4_partOfPoints_1 h7 (by decide) (by decide) (by decide) (by decide) ?_
    refine ww_aload_n X dX4_partOfPoints_76 0 rfl ?_
    refine ww_get X in_X4_partOfPoints_X4 0 cg_0 rfl 2 (by decide) (X.wd 1 rfl) (v := .ref (ad 2)) rfl dX4_partOfPoints_77 ?_
    refine ww_getN X in_X4_partOfPoints_X3 2 cg_2 rfl 8 (by decide) (X.nest 7 rfl) (v := .int (z.1 9)) rfl dX4_partOfPoints_80 ?_
    exact ww_iret X hp dX4_partOfPoints_83
  have hp := hp.2 h7
  rcases Classical.em (a1 = 5) with h8 | h8
  · have hp := hp.1 h8
    refine ww_tin X (5) (off := 83) (tgt := 84) dX4_partOfPoints_1 h8 (by decide) (by decide) (by decide) (by decide) ?_
    refine ww_aload_n X dX4_partOfPoints_84 0 rfl ?_
    refine ww_get X in_X4_partOfPoints_X4 0 cg_0 rfl 2 (by decide) (X.wd 1 rfl) (v := .ref (ad 2)) rfl dX4_partOfPoints_85 ?_
    refine ww_aload_n X dX4_partOfPoints_88 0 rfl ?_
    refine ww_get X in_X4_partOfPoints_X4 0 cg_0 rfl 2 (by decide) (X.wd 1 rfl) (v := .ref (ad 2)) rfl dX4_partOfPoints_89 ?_
    refine ww_getN X in_X4_partOfPoints_X3 2 cg_2 rfl 7 (by decide) (X.nest 6 rfl) (v := .int (z.1 8)) rfl dX4_partOfPoints_92 ?_
    refine ww_callN_i X (As := [.int (z.1 8)]) (rest := []) (kX3_worthOf l D ad cB cI cZ (z.1 8) z _ hp) (⟨va_cnB 1 X.hts gX4_partOfPoints_X3_worthOf_n204 rfl rfl rfl (X.hE.2 _ (List.mem_of_getElem? (i := 30) rfl)) (X.wd 3 rfl) hn_X3_worthOf ⟨Nat.le_of_ble_eq_true rfl, Nat.le_of_ble_eq_true rfl⟩, (X.wd 14 rfl), (X.wd 15 rfl)⟩) 2 3 cg_2 rfl rfl rfl rfl (Nat.le_of_ble_eq_true rfl) dX4_partOfPoints_95 (fun r10 u9 hp => ?_)
    exact ww_iret X hp dX4_partOfPoints_98
  have hp := hp.2 h8
  rcases Classical.em (a1 = 6) with h11 | h11
  · have hp := hp.1 h11
    refine ww_tin X (6) (off := 98) (tgt := 99) dX4_partOfPoints_1 h11 (by decide) (by decide) (by decide) (by decide) ?_
    refine ww_aload_n X dX4_partOfPoints_99 0 rfl ?_
    refine ww_get X in_X4_partOfPoints_X4 0 cg_0 rfl 2 (by decide) (X.wd 1 rfl) (v := .ref (ad 2)) rfl dX4_partOfPoints_100 ?_
    refine ww_aload_n X dX4_partOfPoints_103 0 rfl ?_
    refine ww_get X in_X4_partOfPoints_X4 0 cg_0 rfl 2 (by decide) (X.wd 1 rfl) (v := .ref (ad 2)) rfl dX4_partOfPoints_104 ?_
    refine ww_getN X in_X4_partOfPoints_X3 2 cg_2 rfl 8 (by decide) (X.nest 7 rfl) (v := .int (z.1 9)) rfl dX4_partOfPoints_107 ?_
    refine ww_callN_i X (As := [.int (z.1 9)]) (rest := []) (kX3_worthOf l D ad cB cI cZ (z.1 9) z _ hp) (⟨va_cnB 1 X.hts gX4_partOfPoints_X3_worthOf_n204 rfl rfl rfl (X.hE.2 _ (List.mem_of_getElem? (i := 30) rfl)) (X.wd 3 rfl) hn_X3_worthOf ⟨Nat.le_of_ble_eq_true rfl, Nat.le_of_ble_eq_true rfl⟩, (X.wd 14 rfl), (X.wd 15 rfl)⟩) 2 3 cg_2 rfl rfl rfl rfl (Nat.le_of_ble_eq_true rfl) dX4_partOfPoints_110 (fun r13 u12 hp => ?_)
    exact ww_iret X hp dX4_partOfPoints_113
  have hp := hp.2 h11
  have e14 : a1.toInt ≠ 0 := fun q => h1 (Int32.toInt_inj.mp (q.trans (by decide)))
  have e15 : a1.toInt ≠ 1 := fun q => h4 (Int32.toInt_inj.mp (q.trans (by decide)))
  have e16 : a1.toInt ≠ 2 := fun q => h5 (Int32.toInt_inj.mp (q.trans (by decide)))
  have e17 : a1.toInt ≠ 3 := fun q => h6 (Int32.toInt_inj.mp (q.trans (by decide)))
  have e18 : a1.toInt ≠ 4 := fun q => h7 (Int32.toInt_inj.mp (q.trans (by decide)))
  have e19 : a1.toInt ≠ 5 := fun q => h8 (Int32.toInt_inj.mp (q.trans (by decide)))
  have e20 : a1.toInt ≠ 6 := fun q => h11 (Int32.toInt_inj.mp (q.trans (by decide)))
  refine ww_tout X (tgt := 114) dX4_partOfPoints_1 (by omega) (by decide) ?_
  refine ww_sipush X (v := (-10000)) dX4_partOfPoints_114 (by decide) ?_
  exact ww_iret X hp dX4_partOfPoints_117
set_option maxHeartbeats 4000000 in
set_option maxRecDepth 100000 in
theorem wX4_points_b94 {p : Program} {l : Launch} {e : Env} {s : State} {m : MethodId} {args : Array Value} {below : List Frame} {meth : Method} {c : Code} {D : va_G} {A : Nat → Prop} {ad : Nat → Nat} {cB cI cZ : ClassId} {post : Int32 → Sg → Prop}  (X : Cx p s m args meth c cX4_points 6 (some .int) RX4 wsX4_points D (tyL cB cI cZ) A)  (y0 : Int32) (z : Sg) (hp : pX4_points_b94  post y0 z) : WW p l e rmX4_points s m args below meth c 6 D A (cW ad cB cI cZ) (QI below args s D (tyL cB cI cZ) (cW ad cB cI cZ) A post) z 94 [(0, .ref (ad 0))] [.int y0] := by
  unfold pX4_points_b94 at hp
  exact ww_iret X hp dX4_points_94
set_option maxHeartbeats 4000000 in
set_option maxRecDepth 100000 in
theorem wX4_points_b36 {p : Program} {l : Launch} {e : Env} {s : State} {m : MethodId} {args : Array Value} {below : List Frame} {meth : Method} {c : Code} {D : va_G} {A : Nat → Prop} {ad : Nat → Nat} {cB cI cZ : ClassId} {post : Int32 → Sg → Prop}  (X : Cx p s m args meth c cX4_points 6 (some .int) RX4 wsX4_points D (tyL cB cI cZ) A)  (z : Sg) (hp : pX4_points_b36  post  z) : WW p l e rmX4_points s m args below meth c 6 D A (cW ad cB cI cZ) (QI below args s D (tyL cB cI cZ) (cW ad cB cI cZ) A post) z 36 [(0, .ref (ad 0))] [] := by
  unfold pX4_points_b36 at hp
  refine ww_sipush X (v := (-10000)) dX4_points_36 (by decide) ?_
  exact ww_iret X hp dX4_points_39
set_option maxHeartbeats 4000000 in
set_option maxRecDepth 100000 in
theorem kX4_points (l : Launch) (D : va_G) (ad : Nat → Nat) (cB cI cZ : ClassId) (a1 a2 a3 a4 : Int32) (z : Sg) (post : Int32 → Sg → Prop) (hp : pX4_points a1 a2 a3 a4 z post) : Ci l D (tyL cB cI cZ) (cW ad cB cI cZ) yX4_points wsX4_points rmX4_points [.ref (ad 0), .int a1, .int a2, .int a3, .int a4] z post := by
  refine Ci.of (cc := cX4_points) (maxL := 6) (ret := (some .int)) (by decide) rfl (Nat.le_of_ble_eq_true rfl) ?_
  intro p e s m args below meth c A X
  have X : Cx p s m args meth c cX4_points 6 (some .int) RX4 wsX4_points D (tyL cB cI cZ) A := X
  show WW p l e rmX4_points s m args below meth c 6 D A (cW ad cB cI cZ) (QI below args s D (tyL cB cI cZ) (cW ad cB cI cZ) A post) z 0 [(0, .ref (ad 0)), (1, .int a1), (2, .int a2), (3, .int a3), (4, .int a4)] []
  unfold pX4_points at hp
  refine ww_aload_n X dX4_points_0 0 rfl ?_
  refine ww_iload_n X dX4_points_1 1 rfl ?_
  refine ww_callV_i X (As := [.int a1]) (rest := []) (kX4_isKnowing l D ad cB cI cZ a1 z _ hp) (cwV 1 X.hts gX4_points_X4_isKnowing rfl rfl rfl hd_X4_isKnowing ⟨Nat.le_of_ble_eq_true rfl, Nat.le_of_ble_eq_true rfl⟩) 0 4 cg_0 rfl rfl rfl rfl (Nat.le_of_ble_eq_true rfl) dX4_points_2 (fun r2 u1 hp => ?_)
  refine ww_if_eq X (tgt := 36) dX4_points_5 (by decide) (fun h3 => ?_) (fun h3 => ?_)
  · have hp := hp.1 h3
    exact ww_sub (lv' := [(0, .ref (ad 0))]) [0] rfl (wX4_points_b36 X   u1 hp)
  · have hp := hp.2 h3
    refine ww_aload_n X dX4_points_8 0 rfl ?_
    refine ww_iload_n X dX4_points_9 2 rfl ?_
    refine ww_callV_i X (As := [.int a2]) (rest := []) (kX4_isJumper l D ad cB cI cZ a2 u1 _ hp) (cwV 1 X.hts gX4_points_X4_isJumper rfl rfl rfl hd_X4_isJumper ⟨Nat.le_of_ble_eq_true rfl, Nat.le_of_ble_eq_true rfl⟩) 0 4 cg_0 rfl rfl rfl rfl (Nat.le_of_ble_eq_true rfl) dX4_points_10 (fun r5 u4 hp => ?_)
    refine ww_if_eq X (tgt := 36) dX4_points_13 (by decide) (fun h6 => ?_) (fun h6 => ?_)
    · have hp := hp.1 h6
      exact ww_sub (lv' := [(0, .ref (ad 0))]) [0] rfl (wX4_points_b36 X   u4 hp)
    · have hp := hp.2 h6
      refine ww_aload_n X dX4_points_16 0 rfl ?_
      refine ww_iload_n X dX4_points_17 3 rfl ?_
      refine ww_callV_i X (As := [.int a3]) (rest := []) (kX4_isRound l D ad cB cI cZ a3 u4 _ hp) (cwV 1 X.hts gX4_points_X4_isRound rfl rfl rfl hd_X4_isRound ⟨Nat.le_of_ble_eq_true rfl, Nat.le_of_ble_eq_true rfl⟩) 0 4 cg_0 rfl rfl rfl rfl (Nat.le_of_ble_eq_true rfl) dX4_points_18 (fun r8 u7 hp => ?_)
      refine ww_if_eq X (tgt := 36) dX4_points_21 (by decide) (fun h9 => ?_) (fun h9 => ?_)
      · have hp := hp.1 h9
        exact ww_sub (lv' := [(0, .ref (ad 0))]) [0] rfl (wX4_points_b36 X   u7 hp)
      · have hp := hp.2 h9
        refine ww_iload X dX4_points_24 4 rfl ?_
        refine ww_if_lt X (tgt := 36) dX4_points_26 (by decide) (fun h10 => ?_) (fun h10 => ?_)
        · have hp := hp.1 h10
          exact ww_sub (lv' := [(0, .ref (ad 0))]) [0] rfl (wX4_points_b36 X   u7 hp)
        · have hp := hp.2 h10
          refine ww_iload X dX4_points_29 4 rfl ?_
          refine ww_bipush X (v := 7) dX4_points_31 (by decide) ?_
          refine ww_icmp_le X (tgt := 40) dX4_points_33 (by decide) (fun h11 => ?_) (fun h11 => ?_)
          · have hp := hp.1 h11
            refine ww_aload_n X dX4_points_40 0 rfl ?_
            refine ww_get X in_X4_points_X4 0 cg_0 rfl 2 (by decide) (X.wd 1 rfl) (v := .ref (ad 2)) rfl dX4_points_41 ?_
            refine ww_iload_n X dX4_points_44 1 rfl ?_
            refine ww_callN_v X (As := [.int a1]) (rest := []) (kX3_know l D ad cB cI cZ a1 u7 _ hp) (⟨va_cnB 1 X.hts gX4_points_X3_know_n118 rfl rfl rfl (X.hE.2 _ (List.mem_of_getElem? (i := 16) rfl)) (X.wd 17 rfl) hn_X3_know ⟨Nat.le_of_ble_eq_true rfl, Nat.le_of_ble_eq_true rfl⟩, (X.wd 16 rfl), (X.wd 18 rfl)⟩) 2 3 cg_2 rfl rfl rfl rfl (Nat.le_of_ble_eq_true rfl) dX4_points_45 (fun u12 hp => ?_)
            refine ww_aload_n X dX4_points_48 0 rfl ?_
            refine ww_get X in_X4_points_X4 0 cg_0 rfl 2 (by decide) (X.wd 1 rfl) (v := .ref (ad 2)) rfl dX4_points_49 ?_
            refine ww_iload_n X dX4_points_52 2 rfl ?_
            refine ww_iload_n X dX4_points_53 3 rfl ?_
            refine ww_callS_i X (As := [.int a2, .int a3]) (rest := [.ref (ad 2)]) (kX4_jumpOf l D ad cB cI cZ a2 a3 u12 _ hp) (va_cwS 2 X.hts gX4_points_X4_jumpOf rfl rfl rfl hn_X4_jumpOf ⟨Nat.le_of_ble_eq_true rfl, Nat.le_of_ble_eq_true rfl⟩) rfl rfl (Nat.le_of_ble_eq_true rfl) dX4_points_54 (fun r15 u14 hp => ?_)
            refine ww_callN_i X (As := [.int r15]) (rest := []) (kX3_measure l D ad cB cI cZ r15 u14 _ hp) (⟨va_cnB 1 X.hts gX4_points_X3_measure_n127 rfl rfl rfl (X.hE.2 _ (List.mem_of_getElem? (i := 18) rfl)) (X.wd 17 rfl) hn_X3_measure ⟨Nat.le_of_ble_eq_true rfl, Nat.le_of_ble_eq_true rfl⟩, (X.wd 29 rfl), (X.wd 30 rfl)⟩) 2 3 cg_2 rfl rfl rfl rfl (Nat.le_of_ble_eq_true rfl) dX4_points_57 (fun r17 u16 hp => ?_)
            refine ww_istore X (lv' := [(5, .int r17), (0, .ref (ad 0)), (1, .int a1), (2, .int a2), (3, .int a3), (4, .int a4)]) dX4_points_60 (by decide) rfl ?_
            refine ww_iload X dX4_points_62 5 rfl ?_
            refine ww_bipush X (v := 7) dX4_points_64 (by decide) ?_
            refine ww_icmp_ne X (tgt := 77) dX4_points_66 (by decide) (fun h18 => ?_) (fun h18 => ?_)
            · have hp := hp.1 h18
              refine ww_iload X dX4_points_77 0 rfl ?_
              refine ww_if_eq X (tgt := 91) dX4_points_79 (by decide) (fun h19 => ?_) (fun h19 => ?_)
              · have hp := hp.1 h19
                refine ww_sipush X (v := (-10000)) dX4_points_91 (by decide) ?_
                exact ww_sub (lv' := [(0, .ref (ad 0))]) [1] rfl (wX4_points_b94 X  (-10000) u16 hp)
              · have hp := hp.2 h19
                refine ww_aload_n X dX4_points_82 1 rfl ?_
                refine ww_iload X dX4_points_83 5 rfl ?_
                refine ww_callV_i X (As := [.int a4]) (rest := []) (kX4_partOfPoints l D ad cB cI cZ a4 u16 _ hp) (cwV 1 X.hts gX4_points_X4_partOfPoints rfl rfl rfl hd_X4_partOfPoints ⟨Nat.le_of_ble_eq_true rfl, Nat.le_of_ble_eq_true rfl⟩) 0 4 cg_0 rfl rfl rfl rfl (Nat.le_of_ble_eq_true rfl) dX4_points_85 (fun r21 u20 hp => ?_)
                refine ww_goto X (tgt := 94) dX4_points_88 (by decide) ?_
                exact ww_sub (lv' := [(0, .ref (ad 0))]) [1] rfl (wX4_points_b94 X  r21 u20 hp)
            · have hp := hp.2 h18
              refine ww_aload_n X dX4_points_69 1 rfl ?_
              refine ww_get X in_X4_points_X4 0 cg_0 rfl 2 (by decide) (X.wd 1 rfl) (v := .ref (ad 2)) rfl dX4_points_70 ?_
              refine ww_getN X in_X4_points_X3 2 cg_2 rfl 9 (by decide) (X.nest 1 rfl) (v := .int (u16.1 10)) rfl dX4_points_73 ?_
              exact ww_iret X hp dX4_points_76
          · have hp := hp.2 h11
            exact ww_sub (lv' := [(0, .ref (ad 0))]) [0] rfl (wX4_points_b36 X   u7 hp)
set_option maxHeartbeats 4000000 in
set_option maxRecDepth 100000 in
theorem wX4_told_b133 {p : Program} {l : Launch} {e : Env} {s : State} {m : MethodId} {args : Array Value} {below : List Frame} {meth : Method} {c : Code} {D : va_G} {A : Nat → Prop} {ad : Nat → Nat} {cB cI cZ : ClassId} {post : Int32 → Sg → Prop}  (X : Cx p s m args meth c cX4_told 4 (some .int) RX4 wsX4_told D (tyL cB cI cZ) A)  (y0 : Int32) (z : Sg) (hp : pX4_told_b133  post y0 z) : WW p l e rmX4_told s m args below meth c 4 D A (cW ad cB cI cZ) (QI below args s D (tyL cB cI cZ) (cW ad cB cI cZ) A post) z 133 [(0, .ref (ad 0))] [.int y0] := by
  unfold pX4_told_b133 at hp
  exact ww_iret X hp dX4_told_133
set_option maxHeartbeats 4000000 in
set_option maxRecDepth 100000 in
theorem wX4_told_b93 {p : Program} {l : Launch} {e : Env} {s : State} {m : MethodId} {args : Array Value} {below : List Frame} {meth : Method} {c : Code} {D : va_G} {A : Nat → Prop} {ad : Nat → Nat} {cB cI cZ : ClassId} {post : Int32 → Sg → Prop}  (X : Cx p s m args meth c cX4_told 4 (some .int) RX4 wsX4_told D (tyL cB cI cZ) A)  (y0 : Int32) (z : Sg) (hp : pX4_told_b93  post y0 z) : WW p l e rmX4_told s m args below meth c 4 D A (cW ad cB cI cZ) (QI below args s D (tyL cB cI cZ) (cW ad cB cI cZ) A post) z 93 [(0, .ref (ad 0))] [.int y0] := by
  unfold pX4_told_b93 at hp
  exact ww_iret X hp dX4_told_93
set_option maxHeartbeats 4000000 in
set_option maxRecDepth 100000 in
theorem wX4_told_b53 {p : Program} {l : Launch} {e : Env} {s : State} {m : MethodId} {args : Array Value} {below : List Frame} {meth : Method} {c : Code} {D : va_G} {A : Nat → Prop} {ad : Nat → Nat} {cB cI cZ : ClassId} {post : Int32 → Sg → Prop}  (X : Cx p s m args meth c cX4_told 4 (some .int) RX4 wsX4_told D (tyL cB cI cZ) A)  (z : Sg) (hp : pX4_told_b53  post  z) : WW p l e rmX4_told s m args below meth c 4 D A (cW ad cB cI cZ) (QI below args s D (tyL cB cI cZ) (cW ad cB cI cZ) A post) z 53 [(0, .ref (ad 0))] [] := by
  unfold pX4_told_b53 at hp
  refine ww_sipush X (v := (-10000)) dX4_told_53 (by decide) ?_
  exact ww_iret X hp dX4_told_56
set_option maxHeartbeats 4000000 in
set_option maxRecDepth 100000 in
theorem kX4_told (l : Launch) (D : va_G) (ad : Nat → Nat) (cB cI cZ : ClassId) (a1 a2 a3 : Int32) (z : Sg) (post : Int32 → Sg → Prop) (hp : pX4_told a1 a2 a3 z post) : Ci l D (tyL cB cI cZ) (cW ad cB cI cZ) yX4_told wsX4_told rmX4_told [.ref (ad 0), .int a1, .int a2, .int a3] z post := by
  refine Ci.of (cc := cX4_told) (maxL := 4) (ret := (some .int)) (by decide) rfl (Nat.le_of_ble_eq_true rfl) ?_
  intro p e s m args below meth c A X
  have X : Cx p s m args meth c cX4_told 4 (some .int) RX4 wsX4_told D (tyL cB cI cZ) A := X
  show WW p l e rmX4_told s m args below meth c 4 D A (cW ad cB cI cZ) (QI below args s D (tyL cB cI cZ) (cW ad cB cI cZ) A post) z 0 [(0, .ref (ad 0)), (1, .int a1), (2, .int a2), (3, .int a3)] []
  unfold pX4_told at hp
  refine ww_aload_n X dX4_told_0 0 rfl ?_
  refine ww_iload_n X dX4_told_1 2 rfl ?_
  refine ww_callV_i X (As := [.int a2]) (rest := []) (kX4_isJumper l D ad cB cI cZ a2 z _ hp) (cwV 1 X.hts gX4_told_X4_isJumper rfl rfl rfl hd_X4_isJumper ⟨Nat.le_of_ble_eq_true rfl, Nat.le_of_ble_eq_true rfl⟩) 0 4 cg_0 rfl rfl rfl rfl (Nat.le_of_ble_eq_true rfl) dX4_told_2 (fun r2 u1 hp => ?_)
  refine ww_if_ne X (tgt := 12) dX4_told_5 (by decide) (fun h3 => ?_) (fun h3 => ?_)
  · have hp := hp.1 h3
    refine ww_iload_n X dX4_told_12 3 rfl ?_
    refine ww_iconst X (v := 3) dX4_told_13 (by decide) ?_
    refine ww_icmp_ne X (tgt := 24) dX4_told_14 (by decide) (fun h4 => ?_) (fun h4 => ?_)
    · have hp := hp.1 h4
      refine ww_iload_n X dX4_told_24 3 rfl ?_
      refine ww_iconst X (v := 4) dX4_told_25 (by decide) ?_
      refine ww_icmp_ne X (tgt := 36) dX4_told_26 (by decide) (fun h5 => ?_) (fun h5 => ?_)
      · have hp := hp.1 h5
        refine ww_aload_n X dX4_told_36 0 rfl ?_
        refine ww_iload_n X dX4_told_37 1 rfl ?_
        refine ww_callV_i X (As := [.int a1]) (rest := []) (kX4_isKnowing l D ad cB cI cZ a1 u1 _ hp) (cwV 1 X.hts gX4_told_X4_isKnowing rfl rfl rfl hd_X4_isKnowing ⟨Nat.le_of_ble_eq_true rfl, Nat.le_of_ble_eq_true rfl⟩) 0 4 cg_0 rfl rfl rfl rfl (Nat.le_of_ble_eq_true rfl) dX4_told_38 (fun r7 u6 hp => ?_)
        refine ww_if_eq X (tgt := 53) dX4_told_41 (by decide) (fun h8 => ?_) (fun h8 => ?_)
        · have hp := hp.1 h8
          exact ww_sub (lv' := [(0, .ref (ad 0))]) [0] rfl (wX4_told_b53 X   u6 hp)
        · have hp := hp.2 h8
          refine ww_iload_n X dX4_told_44 3 rfl ?_
          refine ww_if_lt X (tgt := 53) dX4_told_45 (by decide) (fun h9 => ?_) (fun h9 => ?_)
          · have hp := hp.1 h9
            exact ww_sub (lv' := [(0, .ref (ad 0))]) [0] rfl (wX4_told_b53 X   u6 hp)
          · have hp := hp.2 h9
            refine ww_iload_n X dX4_told_48 3 rfl ?_
            refine ww_iconst X (v := 2) dX4_told_49 (by decide) ?_
            refine ww_icmp_le X (tgt := 57) dX4_told_50 (by decide) (fun h10 => ?_) (fun h10 => ?_)
            · have hp := hp.1 h10
              refine ww_aload_n X dX4_told_57 0 rfl ?_
              refine ww_get X in_X4_told_X4 0 cg_0 rfl 3 (by decide) (X.wd 3 rfl) (v := .ref (ad 12)) rfl dX4_told_58 ?_
              refine ww_aload_n X dX4_told_61 0 rfl ?_
              refine ww_get X in_X4_told_X4 0 cg_0 rfl 2 (by decide) (X.wd 4 rfl) (v := .ref (ad 2)) rfl dX4_told_62 ?_
              refine ww_iload_n X dX4_told_65 1 rfl ?_
              refine ww_aload_n X dX4_told_66 0 rfl ?_
              refine ww_get X in_X4_told_X4 0 cg_0 rfl 7 (by decide) (X.wd 5 rfl) (v := .int (u6.1 1)) rfl dX4_told_67 ?_
              refine ww_callN_v X (As := [.ref (ad 2), .int a1, .int (u6.1 1)]) (rest := []) (kX0_draw l D ad cB cI cZ a1 (u6.1 1) u6 _ hp) (⟨va_cnB 3 X.hts gX4_told_X0_draw_n136 rfl rfl rfl (X.hE.2 _ (List.mem_of_getElem? (i := 19) rfl)) (X.wd 16 rfl) hn_X0_draw ⟨Nat.le_of_ble_eq_true rfl, Nat.le_of_ble_eq_true rfl⟩, (X.wd 15 rfl), (X.wd 17 rfl)⟩) 12 0 cg_12 rfl rfl rfl rfl (Nat.le_of_ble_eq_true rfl) dX4_told_70 (fun u11 hp => ?_)
              refine ww_iload_n X dX4_told_73 3 rfl ?_
              refine ww_if_ne X (tgt := 94) dX4_told_74 (by decide) (fun h13 => ?_) (fun h13 => ?_)
              · have hp := hp.1 h13
                refine ww_aload_n X dX4_told_94 0 rfl ?_
                refine ww_get X in_X4_told_X4 0 cg_0 rfl 3 (by decide) (X.wd 3 rfl) (v := .ref (ad 12)) rfl dX4_told_95 ?_
                refine ww_iload_n X dX4_told_98 2 rfl ?_
                refine ww_callN_i X (As := [.int a2]) (rest := []) (kX0_isListed l D ad cB cI cZ a2 u11 _ hp) (⟨va_cnB 1 X.hts gX4_told_X0_isListed_n143 rfl rfl rfl (X.hE.2 _ (List.mem_of_getElem? (i := 21) rfl)) (X.wd 16 rfl) hn_X0_isListed ⟨Nat.le_of_ble_eq_true rfl, Nat.le_of_ble_eq_true rfl⟩, (X.wd 115 rfl), (X.wd 116 rfl)⟩) 12 0 cg_12 rfl rfl rfl rfl (Nat.le_of_ble_eq_true rfl) dX4_told_99 (fun r15 u14 hp => ?_)
                refine ww_if_ne X (tgt := 109) dX4_told_102 (by decide) (fun h16 => ?_) (fun h16 => ?_)
                · have hp := hp.1 h16
                  refine ww_iload_n X dX4_told_109 3 rfl ?_
                  refine ww_iconst X (v := 1) dX4_told_110 (by decide) ?_
                  refine ww_icmp_ne X (tgt := 125) dX4_told_111 (by decide) (fun h17 => ?_) (fun h17 => ?_)
                  · have hp := hp.1 h17
                    refine ww_aload_n X dX4_told_125 0 rfl ?_
                    refine ww_get X in_X4_told_X4 0 cg_0 rfl 3 (by decide) (X.wd 3 rfl) (v := .ref (ad 12)) rfl dX4_told_126 ?_
                    refine ww_iload_n X dX4_told_129 2 rfl ?_
                    refine ww_callN_i X (As := [.int a2]) (rest := []) (kX0_placeOf l D ad cB cI cZ a2 u14 _ hp) (⟨va_cnB 1 X.hts gX4_told_X0_placeOf_n149 rfl rfl rfl (X.hE.2 _ (List.mem_of_getElem? (i := 23) rfl)) (X.wd 16 rfl) hn_X0_placeOf ⟨Nat.le_of_ble_eq_true rfl, Nat.le_of_ble_eq_true rfl⟩, (X.wd 119 rfl), (X.wd 120 rfl)⟩) 12 0 cg_12 rfl rfl rfl rfl (Nat.le_of_ble_eq_true rfl) dX4_told_130 (fun r19 u18 hp => ?_)
                    exact ww_sub (lv' := [(0, .ref (ad 0))]) [0] rfl (wX4_told_b133 X  r19 u18 hp)
                  · have hp := hp.2 h17
                    refine ww_aload_n X dX4_told_114 0 rfl ?_
                    refine ww_get X in_X4_told_X4 0 cg_0 rfl 3 (by decide) (X.wd 3 rfl) (v := .ref (ad 12)) rfl dX4_told_115 ?_
                    refine ww_iload_n X dX4_told_118 2 rfl ?_
                    refine ww_callN_i X (As := [.int a2]) (rest := []) (kX0_totalOf l D ad cB cI cZ a2 u14 _ hp) (⟨va_cnB 1 X.hts gX4_told_X0_totalOf_n146 rfl rfl rfl (X.hE.2 _ (List.mem_of_getElem? (i := 22) rfl)) (X.wd 16 rfl) hn_X0_totalOf ⟨Nat.le_of_ble_eq_true rfl, Nat.le_of_ble_eq_true rfl⟩, (X.wd 122 rfl), (X.wd 123 rfl)⟩) 12 0 cg_12 rfl rfl rfl rfl (Nat.le_of_ble_eq_true rfl) dX4_told_119 (fun r21 u20 hp => ?_)
                    refine ww_goto X (tgt := 133) dX4_told_122 (by decide) ?_
                    exact ww_sub (lv' := [(0, .ref (ad 0))]) [0] rfl (wX4_told_b133 X  r21 u20 hp)
                · have hp := hp.2 h16
                  refine ww_sipush X (v := (-10000)) dX4_told_105 (by decide) ?_
                  exact ww_iret X hp dX4_told_108
              · have hp := hp.2 h13
                refine ww_aload_n X dX4_told_77 0 rfl ?_
                refine ww_get X in_X4_told_X4 0 cg_0 rfl 3 (by decide) (X.wd 3 rfl) (v := .ref (ad 12)) rfl dX4_told_78 ?_
                refine ww_iload_n X dX4_told_81 2 rfl ?_
                refine ww_callN_i X (As := [.int a2]) (rest := []) (kX0_isThrough l D ad cB cI cZ a2 u11 _ hp) (⟨va_cnB 1 X.hts gX4_told_X0_isThrough_n140 rfl rfl rfl (X.hE.2 _ (List.mem_of_getElem? (i := 20) rfl)) (X.wd 16 rfl) hn_X0_isThrough ⟨Nat.le_of_ble_eq_true rfl, Nat.le_of_ble_eq_true rfl⟩, (X.wd 112 rfl), (X.wd 113 rfl)⟩) 12 0 cg_12 rfl rfl rfl rfl (Nat.le_of_ble_eq_true rfl) dX4_told_82 (fun r23 u22 hp => ?_)
                refine ww_if_eq X (tgt := 92) dX4_told_85 (by decide) (fun h24 => ?_) (fun h24 => ?_)
                · have hp := hp.1 h24
                  refine ww_iconst X (v := 0) dX4_told_92 (by decide) ?_
                  exact ww_sub (lv' := [(0, .ref (ad 0))]) [0] rfl (wX4_told_b93 X  0 u22 hp)
                · have hp := hp.2 h24
                  refine ww_iconst X (v := 1) dX4_told_88 (by decide) ?_
                  refine ww_goto X (tgt := 93) dX4_told_89 (by decide) ?_
                  exact ww_sub (lv' := [(0, .ref (ad 0))]) [0] rfl (wX4_told_b93 X  1 u22 hp)
            · have hp := hp.2 h10
              exact ww_sub (lv' := [(0, .ref (ad 0))]) [0] rfl (wX4_told_b53 X   u6 hp)
      · have hp := hp.2 h5
        refine ww_aload_n X dX4_told_29 0 rfl ?_
        refine ww_get X in_X4_told_X4 0 cg_0 rfl 6 (by decide) (X.wd 2 rfl) (v := .ref (ad 25)) rfl dX4_told_30 ?_
        refine ww_iload_n X dX4_told_33 2 rfl ?_
        obtain ⟨h25, hp⟩ := hp
        refine ww_iald X 25 1 cg_25 rfl (v := (gA u1 19 a2)) h25 rfl dX4_told_34 ?_
        exact ww_iret X hp dX4_told_35
    · have hp := hp.2 h4
      refine ww_aload_n X dX4_told_17 0 rfl ?_
      refine ww_get X in_X4_told_X4 0 cg_0 rfl 5 (by decide) (X.wd 1 rfl) (v := .ref (ad 24)) rfl dX4_told_18 ?_
      refine ww_iload_n X dX4_told_21 2 rfl ?_
      obtain ⟨h26, hp⟩ := hp
      refine ww_iald X 24 1 cg_24 rfl (v := (gA u1 18 a2)) h26 rfl dX4_told_22 ?_
      exact ww_iret X hp dX4_told_23
  · have hp := hp.2 h3
    refine ww_sipush X (v := (-10000)) dX4_told_8 (by decide) ?_
    exact ww_iret X hp dX4_told_11
set_option maxHeartbeats 4000000 in
set_option maxRecDepth 100000 in
theorem wX4_list_b53 {p : Program} {l : Launch} {e : Env} {s : State} {m : MethodId} {args : Array Value} {below : List Frame} {meth : Method} {c : Code} {D : va_G} {A : Nat → Prop} {ad : Nat → Nat} {cB cI cZ : ClassId} {post : Int32 → Sg → Prop}  (X : Cx p s m args meth c cX4_list 3 (some .int) RX4 wsX4_list D (tyL cB cI cZ) A)  (y0 : Int32) (z : Sg) (hp : pX4_list_b53  post y0 z) : WW p l e rmX4_list s m args below meth c 3 D A (cW ad cB cI cZ) (QI below args s D (tyL cB cI cZ) (cW ad cB cI cZ) A post) z 53 [(0, .ref (ad 0))] [.int y0] := by
  unfold pX4_list_b53 at hp
  exact ww_iret X hp dX4_list_53
set_option maxHeartbeats 4000000 in
set_option maxRecDepth 100000 in
theorem kX4_list (l : Launch) (D : va_G) (ad : Nat → Nat) (cB cI cZ : ClassId) (a1 a2 : Int32) (z : Sg) (post : Int32 → Sg → Prop) (hp : pX4_list a1 a2 z post) : Ci l D (tyL cB cI cZ) (cW ad cB cI cZ) yX4_list wsX4_list rmX4_list [.ref (ad 0), .int a1, .int a2] z post := by
  refine Ci.of (cc := cX4_list) (maxL := 3) (ret := (some .int)) (by decide) rfl (Nat.le_of_ble_eq_true rfl) ?_
  intro p e s m args below meth c A X
  have X : Cx p s m args meth c cX4_list 3 (some .int) RX4 wsX4_list D (tyL cB cI cZ) A := X
  show WW p l e rmX4_list s m args below meth c 3 D A (cW ad cB cI cZ) (QI below args s D (tyL cB cI cZ) (cW ad cB cI cZ) A post) z 0 [(0, .ref (ad 0)), (1, .int a1), (2, .int a2)] []
  unfold pX4_list at hp
  refine ww_aload_n X dX4_list_0 0 rfl ?_
  refine ww_iload_n X dX4_list_1 1 rfl ?_
  refine ww_callV_i X (As := [.int a1]) (rest := []) (kX4_isKnowing l D ad cB cI cZ a1 z _ hp) (cwV 1 X.hts gX4_list_X4_isKnowing rfl rfl rfl hd_X4_isKnowing ⟨Nat.le_of_ble_eq_true rfl, Nat.le_of_ble_eq_true rfl⟩) 0 4 cg_0 rfl rfl rfl rfl (Nat.le_of_ble_eq_true rfl) dX4_list_2 (fun r2 u1 hp => ?_)
  refine ww_if_ne X (tgt := 12) dX4_list_5 (by decide) (fun h3 => ?_) (fun h3 => ?_)
  · have hp := hp.1 h3
    refine ww_aload_n X dX4_list_12 0 rfl ?_
    refine ww_get X in_X4_list_X4 0 cg_0 rfl 3 (by decide) (X.wd 1 rfl) (v := .ref (ad 12)) rfl dX4_list_13 ?_
    refine ww_aload_n X dX4_list_16 0 rfl ?_
    refine ww_get X in_X4_list_X4 0 cg_0 rfl 2 (by decide) (X.wd 2 rfl) (v := .ref (ad 2)) rfl dX4_list_17 ?_
    refine ww_iload_n X dX4_list_20 1 rfl ?_
    refine ww_aload_n X dX4_list_21 0 rfl ?_
    refine ww_get X in_X4_list_X4 0 cg_0 rfl 7 (by decide) (X.wd 3 rfl) (v := .int (u1.1 1)) rfl dX4_list_22 ?_
    refine ww_callN_v X (As := [.ref (ad 2), .int a1, .int (u1.1 1)]) (rest := []) (kX0_draw l D ad cB cI cZ a1 (u1.1 1) u1 _ hp) (⟨va_cnB 3 X.hts gX4_list_X0_draw_n136 rfl rfl rfl (X.hE.2 _ (List.mem_of_getElem? (i := 19) rfl)) (X.wd 10 rfl) hn_X0_draw ⟨Nat.le_of_ble_eq_true rfl, Nat.le_of_ble_eq_true rfl⟩, (X.wd 9 rfl), (X.wd 11 rfl)⟩) 12 0 cg_12 rfl rfl rfl rfl (Nat.le_of_ble_eq_true rfl) dX4_list_25 (fun u4 hp => ?_)
    refine ww_aload_n X dX4_list_28 0 rfl ?_
    refine ww_get X in_X4_list_X4 0 cg_0 rfl 3 (by decide) (X.wd 1 rfl) (v := .ref (ad 12)) rfl dX4_list_29 ?_
    refine ww_iload_n X dX4_list_32 2 rfl ?_
    refine ww_callN_i X (As := [.int a2]) (rest := []) (kX0_isPosition l D ad cB cI cZ a2 u4 _ hp) (⟨va_cnB 1 X.hts gX4_list_X0_isPosition_n152 rfl rfl rfl (X.hE.2 _ (List.mem_of_getElem? (i := 25) rfl)) (X.wd 10 rfl) hn_X0_isPosition ⟨Nat.le_of_ble_eq_true rfl, Nat.le_of_ble_eq_true rfl⟩, (X.wd 106 rfl), (X.wd 107 rfl)⟩) 12 0 cg_12 rfl rfl rfl rfl (Nat.le_of_ble_eq_true rfl) dX4_list_33 (fun r7 u6 hp => ?_)
    refine ww_if_eq X (tgt := 50) dX4_list_36 (by decide) (fun h8 => ?_) (fun h8 => ?_)
    · have hp := hp.1 h8
      refine ww_sipush X (v := (-10000)) dX4_list_50 (by decide) ?_
      exact ww_sub (lv' := [(0, .ref (ad 0))]) [0] rfl (wX4_list_b53 X  (-10000) u6 hp)
    · have hp := hp.2 h8
      refine ww_aload_n X dX4_list_39 0 rfl ?_
      refine ww_get X in_X4_list_X4 0 cg_0 rfl 3 (by decide) (X.wd 1 rfl) (v := .ref (ad 12)) rfl dX4_list_40 ?_
      refine ww_iload_n X dX4_list_43 2 rfl ?_
      refine ww_callN_i X (As := [.int a2]) (rest := []) (kX0_jumperAt l D ad cB cI cZ a2 u6 _ hp) (⟨va_cnB 1 X.hts gX4_list_X0_jumperAt_n155 rfl rfl rfl (X.hE.2 _ (List.mem_of_getElem? (i := 26) rfl)) (X.wd 10 rfl) hn_X0_jumperAt ⟨Nat.le_of_ble_eq_true rfl, Nat.le_of_ble_eq_true rfl⟩, (X.wd 109 rfl), (X.wd 110 rfl)⟩) 12 0 cg_12 rfl rfl rfl rfl (Nat.le_of_ble_eq_true rfl) dX4_list_44 (fun r10 u9 hp => ?_)
      refine ww_goto X (tgt := 53) dX4_list_47 (by decide) ?_
      exact ww_sub (lv' := [(0, .ref (ad 0))]) [0] rfl (wX4_list_b53 X  r10 u9 hp)
  · have hp := hp.2 h3
    refine ww_sipush X (v := (-10000)) dX4_list_8 (by decide) ?_
    exact ww_iret X hp dX4_list_11
set_option maxHeartbeats 4000000 in
set_option maxRecDepth 100000 in
theorem wX4_start_b39 {p : Program} {l : Launch} {e : Env} {s : State} {m : MethodId} {args : Array Value} {below : List Frame} {meth : Method} {c : Code} {D : va_G} {A : Nat → Prop} {ad : Nat → Nat} {cB cI cZ : ClassId} {post : Int32 → Sg → Prop}  (X : Cx p s m args meth c cX4_start 4 (some .int) RX4 wsX4_start D (tyL cB cI cZ) A)  (y0 : Int32) (z : Sg) (hp : pX4_start_b39  post y0 z) : WW p l e rmX4_start s m args below meth c 4 D A (cW ad cB cI cZ) (QI below args s D (tyL cB cI cZ) (cW ad cB cI cZ) A post) z 39 [(0, .ref (ad 0))] [.int y0] := by
  unfold pX4_start_b39 at hp
  exact ww_iret X hp dX4_start_39
set_option maxHeartbeats 4000000 in
set_option maxRecDepth 100000 in
theorem wX4_start_b16 {p : Program} {l : Launch} {e : Env} {s : State} {m : MethodId} {args : Array Value} {below : List Frame} {meth : Method} {c : Code} {D : va_G} {A : Nat → Prop} {ad : Nat → Nat} {cB cI cZ : ClassId} {post : Int32 → Sg → Prop}  (X : Cx p s m args meth c cX4_start 4 (some .int) RX4 wsX4_start D (tyL cB cI cZ) A)  (z : Sg) (hp : pX4_start_b16  post  z) : WW p l e rmX4_start s m args below meth c 4 D A (cW ad cB cI cZ) (QI below args s D (tyL cB cI cZ) (cW ad cB cI cZ) A post) z 16 [(0, .ref (ad 0))] [] := by
  unfold pX4_start_b16 at hp
  refine ww_sipush X (v := (-10000)) dX4_start_16 (by decide) ?_
  exact ww_iret X hp dX4_start_19
set_option maxHeartbeats 4000000 in
set_option maxRecDepth 100000 in
theorem kX4_start (l : Launch) (D : va_G) (ad : Nat → Nat) (cB cI cZ : ClassId) (a1 a2 a3 : Int32) (z : Sg) (post : Int32 → Sg → Prop) (hp : pX4_start a1 a2 a3 z post) : Ci l D (tyL cB cI cZ) (cW ad cB cI cZ) yX4_start wsX4_start rmX4_start [.ref (ad 0), .int a1, .int a2, .int a3] z post := by
  refine Ci.of (cc := cX4_start) (maxL := 4) (ret := (some .int)) (by decide) rfl (Nat.le_of_ble_eq_true rfl) ?_
  intro p e s m args below meth c A X
  have X : Cx p s m args meth c cX4_start 4 (some .int) RX4 wsX4_start D (tyL cB cI cZ) A := X
  show WW p l e rmX4_start s m args below meth c 4 D A (cW ad cB cI cZ) (QI below args s D (tyL cB cI cZ) (cW ad cB cI cZ) A post) z 0 [(0, .ref (ad 0)), (1, .int a1), (2, .int a2), (3, .int a3)] []
  unfold pX4_start at hp
  refine ww_aload_n X dX4_start_0 0 rfl ?_
  refine ww_iload_n X dX4_start_1 1 rfl ?_
  refine ww_callV_i X (As := [.int a1]) (rest := []) (kX4_isKnowing l D ad cB cI cZ a1 z _ hp) (cwV 1 X.hts gX4_start_X4_isKnowing rfl rfl rfl hd_X4_isKnowing ⟨Nat.le_of_ble_eq_true rfl, Nat.le_of_ble_eq_true rfl⟩) 0 4 cg_0 rfl rfl rfl rfl (Nat.le_of_ble_eq_true rfl) dX4_start_2 (fun r2 u1 hp => ?_)
  refine ww_if_eq X (tgt := 16) dX4_start_5 (by decide) (fun h3 => ?_) (fun h3 => ?_)
  · have hp := hp.1 h3
    exact ww_sub (lv' := [(0, .ref (ad 0))]) [0] rfl (wX4_start_b16 X   u1 hp)
  · have hp := hp.2 h3
    refine ww_aload_n X dX4_start_8 0 rfl ?_
    refine ww_iload_n X dX4_start_9 2 rfl ?_
    refine ww_callV_i X (As := [.int a2]) (rest := []) (kX4_isRound l D ad cB cI cZ a2 u1 _ hp) (cwV 1 X.hts gX4_start_X4_isRound rfl rfl rfl hd_X4_isRound ⟨Nat.le_of_ble_eq_true rfl, Nat.le_of_ble_eq_true rfl⟩) 0 4 cg_0 rfl rfl rfl rfl (Nat.le_of_ble_eq_true rfl) dX4_start_10 (fun r5 u4 hp => ?_)
    refine ww_if_ne X (tgt := 20) dX4_start_13 (by decide) (fun h6 => ?_) (fun h6 => ?_)
    · have hp := hp.1 h6
      refine ww_iload_n X dX4_start_20 2 rfl ?_
      refine ww_if_ne X (tgt := 40) dX4_start_21 (by decide) (fun h7 => ?_) (fun h7 => ?_)
      · have hp := hp.1 h7
        refine ww_aload_n X dX4_start_40 0 rfl ?_
        refine ww_get X in_X4_start_X4 0 cg_0 rfl 3 (by decide) (X.wd 1 rfl) (v := .ref (ad 12)) rfl dX4_start_41 ?_
        refine ww_aload_n X dX4_start_44 0 rfl ?_
        refine ww_get X in_X4_start_X4 0 cg_0 rfl 2 (by decide) (X.wd 2 rfl) (v := .ref (ad 2)) rfl dX4_start_45 ?_
        refine ww_iload_n X dX4_start_48 1 rfl ?_
        refine ww_aload_n X dX4_start_49 0 rfl ?_
        refine ww_get X in_X4_start_X4 0 cg_0 rfl 7 (by decide) (X.wd 3 rfl) (v := .int (u4.1 1)) rfl dX4_start_50 ?_
        refine ww_callN_v X (As := [.ref (ad 2), .int a1, .int (u4.1 1)]) (rest := []) (kX0_draw l D ad cB cI cZ a1 (u4.1 1) u4 _ hp) (⟨va_cnB 3 X.hts gX4_start_X0_draw_n136 rfl rfl rfl (X.hE.2 _ (List.mem_of_getElem? (i := 19) rfl)) (X.wd 18 rfl) hn_X0_draw ⟨Nat.le_of_ble_eq_true rfl, Nat.le_of_ble_eq_true rfl⟩, (X.wd 17 rfl), (X.wd 19 rfl)⟩) 12 0 cg_12 rfl rfl rfl rfl (Nat.le_of_ble_eq_true rfl) dX4_start_53 (fun u8 hp => ?_)
        refine ww_aload_n X dX4_start_56 0 rfl ?_
        refine ww_get X in_X4_start_X4 0 cg_0 rfl 3 (by decide) (X.wd 1 rfl) (v := .ref (ad 12)) rfl dX4_start_57 ?_
        refine ww_iload_n X dX4_start_60 3 rfl ?_
        refine ww_callN_i X (As := [.int a3]) (rest := []) (kX0_starterAt l D ad cB cI cZ a3 u8 _ hp) (⟨va_cnB 1 X.hts gX4_start_X0_starterAt_n158 rfl rfl rfl (X.hE.2 _ (List.mem_of_getElem? (i := 27) rfl)) (X.wd 18 rfl) hn_X0_starterAt ⟨Nat.le_of_ble_eq_true rfl, Nat.le_of_ble_eq_true rfl⟩, (X.wd 114 rfl), (X.wd 115 rfl)⟩) 12 0 cg_12 rfl rfl rfl rfl (Nat.le_of_ble_eq_true rfl) dX4_start_61 (fun r11 u10 hp => ?_)
        exact ww_iret X hp dX4_start_64
      · have hp := hp.2 h7
        refine ww_aload_n X dX4_start_24 0 rfl ?_
        refine ww_iload_n X dX4_start_25 3 rfl ?_
        refine ww_callV_i X (As := [.int a3]) (rest := []) (kX4_isJumper l D ad cB cI cZ a3 u4 _ hp) (cwV 1 X.hts gX4_start_X4_isJumper rfl rfl rfl hd_X4_isJumper ⟨Nat.le_of_ble_eq_true rfl, Nat.le_of_ble_eq_true rfl⟩) 0 4 cg_0 rfl rfl rfl rfl (Nat.le_of_ble_eq_true rfl) dX4_start_26 (fun r13 u12 hp => ?_)
        refine ww_if_eq X (tgt := 36) dX4_start_29 (by decide) (fun h14 => ?_) (fun h14 => ?_)
        · have hp := hp.1 h14
          refine ww_sipush X (v := (-10000)) dX4_start_36 (by decide) ?_
          exact ww_sub (lv' := [(0, .ref (ad 0))]) [0] rfl (wX4_start_b39 X  (-10000) u12 hp)
        · have hp := hp.2 h14
          refine ww_iload_n X dX4_start_32 3 rfl ?_
          refine ww_goto X (tgt := 39) dX4_start_33 (by decide) ?_
          exact ww_sub (lv' := [(0, .ref (ad 0))]) [0] rfl (wX4_start_b39 X  a3 u12 hp)
    · have hp := hp.2 h6
      exact ww_sub (lv' := [(0, .ref (ad 0))]) [0] rfl (wX4_start_b16 X   u4 hp)
set_option maxHeartbeats 4000000 in
set_option maxRecDepth 100000 in
theorem wX4_teamTotal_b87 {p : Program} {l : Launch} {e : Env} {s : State} {m : MethodId} {args : Array Value} {below : List Frame} {meth : Method} {c : Code} {D : va_G} {A : Nat → Prop} {ad : Nat → Nat} {cB cI cZ : ClassId} {post : Int32 → Sg → Prop}  (X : Cx p s m args meth c cX4_teamTotal 6 (some .int) RX4 wsX4_teamTotal D (tyL cB cI cZ) A)  (y0 : Int32) (z : Sg) (hp : pX4_teamTotal_b87  post y0 z) : WW p l e rmX4_teamTotal s m args below meth c 6 D A (cW ad cB cI cZ) (QI below args s D (tyL cB cI cZ) (cW ad cB cI cZ) A post) z 87 [(0, .ref (ad 0))] [.int y0] := by
  unfold pX4_teamTotal_b87 at hp
  exact ww_iret X hp dX4_teamTotal_87
set_option maxHeartbeats 4000000 in
set_option maxRecDepth 100000 in
theorem wX4_teamTotal_b76 {p : Program} {l : Launch} {e : Env} {s : State} {m : MethodId} {args : Array Value} {below : List Frame} {meth : Method} {c : Code} {D : va_G} {A : Nat → Prop} {ad : Nat → Nat} {cB cI cZ : ClassId} {post : Int32 → Sg → Prop}  (X : Cx p s m args meth c cX4_teamTotal 6 (some .int) RX4 wsX4_teamTotal D (tyL cB cI cZ) A)  (x2 x3 : Int32) (z : Sg) (hp : pX4_teamTotal_b76  post x2 x3 z) : WW p l e rmX4_teamTotal s m args below meth c 6 D A (cW ad cB cI cZ) (QI below args s D (tyL cB cI cZ) (cW ad cB cI cZ) A post) z 76 [(0, .ref (ad 0)), (2, .int x2), (3, .int x3)] [] := by
  unfold pX4_teamTotal_b76 at hp
  refine ww_iload_n X dX4_teamTotal_76 2 rfl ?_
  refine ww_if_ne X (tgt := 86) dX4_teamTotal_77 (by decide) (fun h1 => ?_) (fun h1 => ?_)
  · have hp := hp.1 h1
    refine ww_iload_n X dX4_teamTotal_86 1 rfl ?_
    exact ww_sub (lv' := [(0, .ref (ad 0))]) [0] rfl (wX4_teamTotal_b87 X  x2 z hp)
  · have hp := hp.2 h1
    refine ww_sipush X (v := (-10000)) dX4_teamTotal_80 (by decide) ?_
    refine ww_goto X (tgt := 87) dX4_teamTotal_83 (by decide) ?_
    exact ww_sub (lv' := [(0, .ref (ad 0))]) [0] rfl (wX4_teamTotal_b87 X  (-10000) z hp)
set_option maxHeartbeats 4000000 in
set_option maxRecDepth 100000 in
theorem wX4_teamTotal_b70 {p : Program} {l : Launch} {e : Env} {s : State} {m : MethodId} {args : Array Value} {below : List Frame} {meth : Method} {c : Code} {D : va_G} {A : Nat → Prop} {ad : Nat → Nat} {cB cI cZ : ClassId} {post : Int32 → Sg → Prop} {K7 : Int32 → Int32 → Int32 → Int32 → Sg → Prop} (X : Cx p s m args meth c cX4_teamTotal 6 (some .int) RX4 wsX4_teamTotal D (tyL cB cI cZ) A) (hK7 : ∀ (x1 x2 x3 x4 : Int32) (z : Sg), K7 x1 x2 x3 x4 z → WW p l e rmX4_teamTotal s m args below meth c 6 D A (cW ad cB cI cZ) (QI below args s D (tyL cB cI cZ) (cW ad cB cI cZ) A post) z 7 [(0, .ref (ad 0)), (1, .int x1), (2, .int x2), (3, .int x3), (4, .int x4)] []) (x1 x2 x3 x4 : Int32) (z : Sg) (hp : pX4_teamTotal_b70 K7 post x1 x2 x3 x4 z) : WW p l e rmX4_teamTotal s m args below meth c 6 D A (cW ad cB cI cZ) (QI below args s D (tyL cB cI cZ) (cW ad cB cI cZ) A post) z 70 [(0, .ref (ad 0)), (1, .int x1), (2, .int x2), (3, .int x3), (4, .int x4)] [] := by
  unfold pX4_teamTotal_b70 at hp
  refine ww_iinc X (v := (x4 + 1)) (lv' := [(4, .int (x4 + 1)), (0, .ref (ad 0)), (1, .int x1), (2, .int x2), (3, .int x3)]) dX4_teamTotal_70 4 rfl rfl (by decide) rfl ?_
  refine ww_goto X (tgt := 7) dX4_teamTotal_73 (by decide) ?_
  exact ww_sub (lv' := [(0, .ref (ad 0)), (1, .int x1), (2, .int x2), (3, .int x3), (4, .int (x4 + 1))]) [1, 2, 3, 4, 0] rfl (hK7 x1 x2 x3 (x4 + 1) z hp)
set_option maxHeartbeats 4000000 in
set_option maxRecDepth 100000 in
theorem wX4_teamTotal_b7 {p : Program} {l : Launch} {e : Env} {s : State} {m : MethodId} {args : Array Value} {below : List Frame} {meth : Method} {c : Code} {D : va_G} {A : Nat → Prop} {ad : Nat → Nat} {cB cI cZ : ClassId} {post : Int32 → Sg → Prop} {K7 : Int32 → Int32 → Int32 → Int32 → Sg → Prop} (X : Cx p s m args meth c cX4_teamTotal 6 (some .int) RX4 wsX4_teamTotal D (tyL cB cI cZ) A) (hK7 : ∀ (x1 x2 x3 x4 : Int32) (z : Sg), K7 x1 x2 x3 x4 z → WW p l e rmX4_teamTotal s m args below meth c 6 D A (cW ad cB cI cZ) (QI below args s D (tyL cB cI cZ) (cW ad cB cI cZ) A post) z 7 [(0, .ref (ad 0)), (1, .int x1), (2, .int x2), (3, .int x3), (4, .int x4)] []) (x1 x2 x3 x4 : Int32) (z : Sg) (hp : pX4_teamTotal_b7 K7 post x1 x2 x3 x4 z) : WW p l e rmX4_teamTotal s m args below meth c 6 D A (cW ad cB cI cZ) (QI below args s D (tyL cB cI cZ) (cW ad cB cI cZ) A post) z 7 [(0, .ref (ad 0)), (1, .int x1), (2, .int x2), (3, .int x3), (4, .int x4)] [] := by
  unfold pX4_teamTotal_b7 at hp
  refine ww_iload X dX4_teamTotal_7 4 rfl ?_
  refine ww_aload_n X dX4_teamTotal_9 0 rfl ?_
  refine ww_get X in_X4_teamTotal_X4 0 cg_0 rfl 3 (by decide) (X.wd 1 rfl) (v := .ref (ad 12)) rfl dX4_teamTotal_10 ?_
  refine ww_getN X in_X4_teamTotal_X0 12 cg_12 rfl 5 (by decide) (X.nest 2 rfl) (v := .int (z.1 12)) rfl dX4_teamTotal_13 ?_
  refine ww_icmp_ge X (tgt := 76) dX4_teamTotal_16 (by decide) (fun h1 => ?_) (fun h1 => ?_)
  · have hp := hp.1 h1
    exact ww_sub (lv' := [(0, .ref (ad 0)), (2, .int x2), (3, .int x3)]) [0, 2, 3] rfl (wX4_teamTotal_b76 X  x2 x3 z hp)
  · have hp := hp.2 h1
    refine ww_iload_n X dX4_teamTotal_19 3 rfl ?_
    refine ww_iconst X (v := 4) dX4_teamTotal_20 (by decide) ?_
    refine ww_icmp_ge X (tgt := 76) dX4_teamTotal_21 (by decide) (fun h2 => ?_) (fun h2 => ?_)
    · have hp := hp.1 h2
      exact ww_sub (lv' := [(0, .ref (ad 0)), (2, .int x2), (3, .int x3)]) [0, 2, 3] rfl (wX4_teamTotal_b76 X  x2 x3 z hp)
    · have hp := hp.2 h2
      refine ww_aload_n X dX4_teamTotal_24 0 rfl ?_
      refine ww_get X in_X4_teamTotal_X4 0 cg_0 rfl 3 (by decide) (X.wd 1 rfl) (v := .ref (ad 12)) rfl dX4_teamTotal_25 ?_
      refine ww_iload X dX4_teamTotal_28 4 rfl ?_
      refine ww_callN_i X (As := [.int x4]) (rest := []) (kX0_jumperAt l D ad cB cI cZ x4 z _ hp) (⟨va_cnB 1 X.hts gX4_teamTotal_X0_jumperAt_n155 rfl rfl rfl (X.hE.2 _ (List.mem_of_getElem? (i := 26) rfl)) (X.wd 4 rfl) hn_X0_jumperAt ⟨Nat.le_of_ble_eq_true rfl, Nat.le_of_ble_eq_true rfl⟩, (X.wd 3 rfl), (X.wd 5 rfl)⟩) 12 0 cg_12 rfl rfl rfl rfl (Nat.le_of_ble_eq_true rfl) dX4_teamTotal_30 (fun r4 u3 hp => ?_)
      refine ww_istore X (lv' := [(5, .int r4), (0, .ref (ad 0)), (1, .int x1), (2, .int x2), (3, .int x3), (4, .int x4)]) dX4_teamTotal_33 (by decide) rfl ?_
      refine ww_aload_n X dX4_teamTotal_35 1 rfl ?_
      refine ww_iload X dX4_teamTotal_36 0 rfl ?_
      refine ww_callV_i X (As := [.int r4]) (rest := []) (kX4_isJumper l D ad cB cI cZ r4 u3 _ hp) (cwV 1 X.hts gX4_teamTotal_X4_isJumper rfl rfl rfl hd_X4_isJumper ⟨Nat.le_of_ble_eq_true rfl, Nat.le_of_ble_eq_true rfl⟩) 0 4 cg_0 rfl rfl rfl rfl (Nat.le_of_ble_eq_true rfl) dX4_teamTotal_38 (fun r6 u5 hp => ?_)
      refine ww_if_eq X (tgt := 70) dX4_teamTotal_41 (by decide) (fun h7 => ?_) (fun h7 => ?_)
      · have hp := hp.1 h7
        exact ww_sub (lv' := [(0, .ref (ad 0)), (1, .int x1), (2, .int x2), (3, .int x3), (4, .int x4)]) [1, 2, 3, 4, 5] rfl (wX4_teamTotal_b70 X hK7 x1 x2 x3 x4 u5 hp)
      · have hp := hp.2 h7
        refine ww_aload_n X dX4_teamTotal_44 1 rfl ?_
        refine ww_get X in_X4_teamTotal_X4 0 cg_0 rfl 5 (by decide) (X.wd 2 rfl) (v := .ref (ad 24)) rfl dX4_teamTotal_45 ?_
        refine ww_iload X dX4_teamTotal_48 0 rfl ?_
        obtain ⟨h8, hp⟩ := hp
        refine ww_iald X 24 1 cg_24 rfl (v := (gA u5 18 r4)) h8 rfl dX4_teamTotal_50 ?_
        refine ww_iload_n X dX4_teamTotal_51 2 rfl ?_
        refine ww_icmp_ne X (tgt := 70) dX4_teamTotal_52 (by decide) (fun h9 => ?_) (fun h9 => ?_)
        · have hp := hp.1 h9
          exact ww_sub (lv' := [(0, .ref (ad 0)), (1, .int x1), (2, .int x2), (3, .int x3), (4, .int x4)]) [1, 2, 3, 4, 5] rfl (wX4_teamTotal_b70 X hK7 x1 x2 x3 x4 u5 hp)
        · have hp := hp.2 h9
          refine ww_iload_n X dX4_teamTotal_55 3 rfl ?_
          refine ww_aload_n X dX4_teamTotal_56 1 rfl ?_
          refine ww_get X in_X4_teamTotal_X4 0 cg_0 rfl 3 (by decide) (X.wd 1 rfl) (v := .ref (ad 12)) rfl dX4_teamTotal_57 ?_
          refine ww_iload X dX4_teamTotal_60 0 rfl ?_
          refine ww_callN_i X (As := [.int r4]) (rest := [.int x2]) (kX0_totalOf l D ad cB cI cZ r4 u5 _ hp) (⟨va_cnB 1 X.hts gX4_teamTotal_X0_totalOf_n146 rfl rfl rfl (X.hE.2 _ (List.mem_of_getElem? (i := 22) rfl)) (X.wd 4 rfl) hn_X0_totalOf ⟨Nat.le_of_ble_eq_true rfl, Nat.le_of_ble_eq_true rfl⟩, (X.wd 14 rfl), (X.wd 15 rfl)⟩) 12 0 cg_12 rfl rfl rfl rfl (Nat.le_of_ble_eq_true rfl) dX4_teamTotal_62 (fun r11 u10 hp => ?_)
          refine ww_iadd X dX4_teamTotal_65 ?_
          refine ww_top (fun v12 hv12 => ?_)
          have hp := hp v12 hv12
          refine ww_istore_n X (lv' := [(2, .int v12), (5, .int r4), (0, .ref (ad 0)), (1, .int x1), (3, .int x3), (4, .int x4)]) dX4_teamTotal_66 (by decide) rfl ?_
          refine ww_iinc X (v := (x3 + 1)) (lv' := [(3, .int (x3 + 1)), (2, .int v12), (5, .int r4), (0, .ref (ad 0)), (1, .int x1), (4, .int x4)]) dX4_teamTotal_67 4 rfl rfl (by decide) rfl ?_
          exact ww_sub (lv' := [(0, .ref (ad 0)), (1, .int x1), (2, .int v12), (3, .int (x3 + 1)), (4, .int x4)]) [3, 4, 1, 0, 5] rfl (wX4_teamTotal_b70 X hK7 x1 v12 (x3 + 1) x4 u10 hp)
set_option maxHeartbeats 4000000 in
set_option maxRecDepth 100000 in
theorem wX4_teamTotal_l7 {p : Program} {l : Launch} {e : Env} {s : State} {m : MethodId} {args : Array Value} {below : List Frame} {meth : Method} {c : Code} {D : va_G} {A : Nat → Prop} {ad : Nat → Nat} {cB cI cZ : ClassId} {post : Int32 → Sg → Prop}  (X : Cx p s m args meth c cX4_teamTotal 6 (some .int) RX4 wsX4_teamTotal D (tyL cB cI cZ) A)  (x1 x2 x3 x4 : Int32) (z : Sg) (hp : pX4_teamTotal_l7  post x1 x2 x3 x4 z) : WW p l e rmX4_teamTotal s m args below meth c 6 D A (cW ad cB cI cZ) (QI below args s D (tyL cB cI cZ) (cW ad cB cI cZ) A post) z 7 [(0, .ref (ad 0)), (1, .int x1), (2, .int x2), (3, .int x3), (4, .int x4)] [] := by
  have key := lp_walk (F := (fun (K : Int32 × Int32 × Int32 × Int32 → Sg → Prop) (a : Int32 × Int32 × Int32 × Int32) (z : Sg) => pX4_teamTotal_b7 (fun (x1 x2 x3 x4 : Int32) z => K (x1, x2, x3, x4) z) post a.1 a.2.1 a.2.2.1 a.2.2.2 z)) (P := fun a z => WW p l e rmX4_teamTotal s m args below meth c 6 D A (cW ad cB cI cZ) (QI below args s D (tyL cB cI cZ) (cW ad cB cI cZ) A post) z 7 [(0, .ref (ad 0)), (1, .int a.1), (2, .int a.2.1), (3, .int a.2.2.1), (4, .int a.2.2.2)] []) (fun K hK a z hp => wX4_teamTotal_b7 X (fun x1 x2 x3 x4 z h => hK (x1, x2, x3, x4) z h) a.1 a.2.1 a.2.2.1 a.2.2.2 z hp)
  exact key (x1, x2, x3, x4) z hp
set_option maxHeartbeats 4000000 in
set_option maxRecDepth 100000 in
theorem kX4_teamTotal (l : Launch) (D : va_G) (ad : Nat → Nat) (cB cI cZ : ClassId) (a1 : Int32) (z : Sg) (post : Int32 → Sg → Prop) (hp : pX4_teamTotal a1 z post) : Ci l D (tyL cB cI cZ) (cW ad cB cI cZ) yX4_teamTotal wsX4_teamTotal rmX4_teamTotal [.ref (ad 0), .int a1] z post := by
  refine Ci.of (cc := cX4_teamTotal) (maxL := 6) (ret := (some .int)) (by decide) rfl (Nat.le_of_ble_eq_true rfl) ?_
  intro p e s m args below meth c A X
  have X : Cx p s m args meth c cX4_teamTotal 6 (some .int) RX4 wsX4_teamTotal D (tyL cB cI cZ) A := X
  show WW p l e rmX4_teamTotal s m args below meth c 6 D A (cW ad cB cI cZ) (QI below args s D (tyL cB cI cZ) (cW ad cB cI cZ) A post) z 0 [(0, .ref (ad 0)), (1, .int a1)] []
  unfold pX4_teamTotal at hp
  refine ww_iconst X (v := 0) dX4_teamTotal_0 (by decide) ?_
  refine ww_istore_n X (lv' := [(2, .int 0), (0, .ref (ad 0)), (1, .int a1)]) dX4_teamTotal_1 (by decide) rfl ?_
  refine ww_iconst X (v := 0) dX4_teamTotal_2 (by decide) ?_
  refine ww_istore_n X (lv' := [(3, .int 0), (2, .int 0), (0, .ref (ad 0)), (1, .int a1)]) dX4_teamTotal_3 (by decide) rfl ?_
  refine ww_iconst X (v := 0) dX4_teamTotal_4 (by decide) ?_
  refine ww_istore X (lv' := [(4, .int 0), (3, .int 0), (2, .int 0), (0, .ref (ad 0)), (1, .int a1)]) dX4_teamTotal_5 (by decide) rfl ?_
  exact ww_sub (lv' := [(0, .ref (ad 0)), (1, .int a1), (2, .int 0), (3, .int 0), (4, .int 0)]) [3, 4, 2, 1, 0] rfl (wX4_teamTotal_l7 X  a1 0 0 0 z hp)
set_option maxHeartbeats 4000000 in
set_option maxRecDepth 100000 in
theorem wX4_team_b16 {p : Program} {l : Launch} {e : Env} {s : State} {m : MethodId} {args : Array Value} {below : List Frame} {meth : Method} {c : Code} {D : va_G} {A : Nat → Prop} {ad : Nat → Nat} {cB cI cZ : ClassId} {post : Int32 → Sg → Prop}  (X : Cx p s m args meth c cX4_team 3 (some .int) RX4 wsX4_team D (tyL cB cI cZ) A)  (z : Sg) (hp : pX4_team_b16  post  z) : WW p l e rmX4_team s m args below meth c 3 D A (cW ad cB cI cZ) (QI below args s D (tyL cB cI cZ) (cW ad cB cI cZ) A post) z 16 [(0, .ref (ad 0))] [] := by
  unfold pX4_team_b16 at hp
  refine ww_sipush X (v := (-10000)) dX4_team_16 (by decide) ?_
  exact ww_iret X hp dX4_team_19
set_option maxHeartbeats 4000000 in
set_option maxRecDepth 100000 in
theorem kX4_team (l : Launch) (D : va_G) (ad : Nat → Nat) (cB cI cZ : ClassId) (a1 a2 : Int32) (z : Sg) (post : Int32 → Sg → Prop) (hp : pX4_team a1 a2 z post) : Ci l D (tyL cB cI cZ) (cW ad cB cI cZ) yX4_team wsX4_team rmX4_team [.ref (ad 0), .int a1, .int a2] z post := by
  refine Ci.of (cc := cX4_team) (maxL := 3) (ret := (some .int)) (by decide) rfl (Nat.le_of_ble_eq_true rfl) ?_
  intro p e s m args below meth c A X
  have X : Cx p s m args meth c cX4_team 3 (some .int) RX4 wsX4_team D (tyL cB cI cZ) A := X
  show WW p l e rmX4_team s m args below meth c 3 D A (cW ad cB cI cZ) (QI below args s D (tyL cB cI cZ) (cW ad cB cI cZ) A post) z 0 [(0, .ref (ad 0)), (1, .int a1), (2, .int a2)] []
  unfold pX4_team at hp
  refine ww_aload_n X dX4_team_0 0 rfl ?_
  refine ww_iload_n X dX4_team_1 1 rfl ?_
  refine ww_callV_i X (As := [.int a1]) (rest := []) (kX4_isKnowing l D ad cB cI cZ a1 z _ hp) (cwV 1 X.hts gX4_team_X4_isKnowing rfl rfl rfl hd_X4_isKnowing ⟨Nat.le_of_ble_eq_true rfl, Nat.le_of_ble_eq_true rfl⟩) 0 4 cg_0 rfl rfl rfl rfl (Nat.le_of_ble_eq_true rfl) dX4_team_2 (fun r2 u1 hp => ?_)
  refine ww_if_eq X (tgt := 16) dX4_team_5 (by decide) (fun h3 => ?_) (fun h3 => ?_)
  · have hp := hp.1 h3
    exact ww_sub (lv' := [(0, .ref (ad 0))]) [0] rfl (wX4_team_b16 X   u1 hp)
  · have hp := hp.2 h3
    refine ww_aload_n X dX4_team_8 0 rfl ?_
    refine ww_iload_n X dX4_team_9 2 rfl ?_
    refine ww_callV_i X (As := [.int a2]) (rest := []) (kX4_isTeam l D ad cB cI cZ a2 u1 _ hp) (cwV 1 X.hts gX4_team_X4_isTeam rfl rfl rfl hd_X4_isTeam ⟨Nat.le_of_ble_eq_true rfl, Nat.le_of_ble_eq_true rfl⟩) 0 4 cg_0 rfl rfl rfl rfl (Nat.le_of_ble_eq_true rfl) dX4_team_10 (fun r5 u4 hp => ?_)
    refine ww_if_ne X (tgt := 20) dX4_team_13 (by decide) (fun h6 => ?_) (fun h6 => ?_)
    · have hp := hp.1 h6
      refine ww_aload_n X dX4_team_20 0 rfl ?_
      refine ww_get X in_X4_team_X4 0 cg_0 rfl 3 (by decide) (X.wd 1 rfl) (v := .ref (ad 12)) rfl dX4_team_21 ?_
      refine ww_aload_n X dX4_team_24 0 rfl ?_
      refine ww_get X in_X4_team_X4 0 cg_0 rfl 2 (by decide) (X.wd 2 rfl) (v := .ref (ad 2)) rfl dX4_team_25 ?_
      refine ww_iload_n X dX4_team_28 1 rfl ?_
      refine ww_aload_n X dX4_team_29 0 rfl ?_
      refine ww_get X in_X4_team_X4 0 cg_0 rfl 7 (by decide) (X.wd 3 rfl) (v := .int (u4.1 1)) rfl dX4_team_30 ?_
      refine ww_callN_v X (As := [.ref (ad 2), .int a1, .int (u4.1 1)]) (rest := []) (kX0_draw l D ad cB cI cZ a1 (u4.1 1) u4 _ hp) (⟨va_cnB 3 X.hts gX4_team_X0_draw_n136 rfl rfl rfl (X.hE.2 _ (List.mem_of_getElem? (i := 19) rfl)) (X.wd 14 rfl) hn_X0_draw ⟨Nat.le_of_ble_eq_true rfl, Nat.le_of_ble_eq_true rfl⟩, (X.wd 13 rfl), (X.wd 15 rfl)⟩) 12 0 cg_12 rfl rfl rfl rfl (Nat.le_of_ble_eq_true rfl) dX4_team_33 (fun u7 hp => ?_)
      refine ww_aload_n X dX4_team_36 0 rfl ?_
      refine ww_iload_n X dX4_team_37 2 rfl ?_
      refine ww_callV_i X (As := [.int a2]) (rest := []) (kX4_teamTotal l D ad cB cI cZ a2 u7 _ hp) (cwV 1 X.hts gX4_team_X4_teamTotal rfl rfl rfl hd_X4_teamTotal ⟨Nat.le_of_ble_eq_true rfl, Nat.le_of_ble_eq_true rfl⟩) 0 4 cg_0 rfl rfl rfl rfl (Nat.le_of_ble_eq_true rfl) dX4_team_38 (fun r10 u9 hp => ?_)
      exact ww_iret X hp dX4_team_41
    · have hp := hp.2 h6
      exact ww_sub (lv' := [(0, .ref (ad 0))]) [0] rfl (wX4_team_b16 X   u4 hp)
set_option maxHeartbeats 4000000 in
set_option maxRecDepth 100000 in
theorem wX4_recordJump_b71 {p : Program} {l : Launch} {e : Env} {s : State} {m : MethodId} {args : Array Value} {below : List Frame} {meth : Method} {c : Code} {D : va_G} {A : Nat → Prop} {ad : Nat → Nat} {cB cI cZ : ClassId} {post : Int32 → Sg → Prop} {K21 : Int32 → Int32 → Sg → Prop} (X : Cx p s m args meth c cX4_recordJump 3 (some .int) RX4 wsX4_recordJump D (tyL cB cI cZ) A) (hK21 : ∀ (x1 x2 : Int32) (z : Sg), K21 x1 x2 z → WW p l e rmX4_recordJump s m args below meth c 3 D A (cW ad cB cI cZ) (QI below args s D (tyL cB cI cZ) (cW ad cB cI cZ) A post) z 21 [(0, .ref (ad 0)), (1, .int x1), (2, .int x2)] []) (x1 x2 : Int32) (z : Sg) (hp : pX4_recordJump_b71 K21 post x1 x2 z) : WW p l e rmX4_recordJump s m args below meth c 3 D A (cW ad cB cI cZ) (QI below args s D (tyL cB cI cZ) (cW ad cB cI cZ) A post) z 71 [(0, .ref (ad 0)), (1, .int x1), (2, .int x2)] [] := by
  unfold pX4_recordJump_b71 at hp
  refine ww_iinc X (v := (x2 + 1)) (lv' := [(2, .int (x2 + 1)), (0, .ref (ad 0)), (1, .int x1)]) dX4_recordJump_71 2 rfl rfl (by decide) rfl ?_
  refine ww_goto X (tgt := 21) dX4_recordJump_74 (by decide) ?_
  exact ww_sub (lv' := [(0, .ref (ad 0)), (1, .int x1), (2, .int (x2 + 1))]) [1, 2, 0] rfl (hK21 x1 (x2 + 1) z hp)
set_option maxHeartbeats 4000000 in
set_option maxRecDepth 100000 in
theorem wX4_recordJump_b69 {p : Program} {l : Launch} {e : Env} {s : State} {m : MethodId} {args : Array Value} {below : List Frame} {meth : Method} {c : Code} {D : va_G} {A : Nat → Prop} {ad : Nat → Nat} {cB cI cZ : ClassId} {post : Int32 → Sg → Prop} {K21 : Int32 → Int32 → Sg → Prop} (X : Cx p s m args meth c cX4_recordJump 3 (some .int) RX4 wsX4_recordJump D (tyL cB cI cZ) A) (hK21 : ∀ (x1 x2 : Int32) (z : Sg), K21 x1 x2 z → WW p l e rmX4_recordJump s m args below meth c 3 D A (cW ad cB cI cZ) (QI below args s D (tyL cB cI cZ) (cW ad cB cI cZ) A post) z 21 [(0, .ref (ad 0)), (1, .int x1), (2, .int x2)] []) (x2 : Int32) (z : Sg) (hp : pX4_recordJump_b69 K21 post x2 z) : WW p l e rmX4_recordJump s m args below meth c 3 D A (cW ad cB cI cZ) (QI below args s D (tyL cB cI cZ) (cW ad cB cI cZ) A post) z 69 [(0, .ref (ad 0)), (2, .int x2)] [] := by
  unfold pX4_recordJump_b69 at hp
  refine ww_iload_n X dX4_recordJump_69 1 rfl ?_
  refine ww_istore_n X (lv' := [(1, .int x2), (0, .ref (ad 0)), (2, .int x2)]) dX4_recordJump_70 (by decide) rfl ?_
  exact ww_sub (lv' := [(0, .ref (ad 0)), (1, .int x2), (2, .int x2)]) [1, 0, 2] rfl (wX4_recordJump_b71 X hK21 x2 x2 z hp)
set_option maxHeartbeats 4000000 in
set_option maxRecDepth 100000 in
theorem wX4_recordJump_b21 {p : Program} {l : Launch} {e : Env} {s : State} {m : MethodId} {args : Array Value} {below : List Frame} {meth : Method} {c : Code} {D : va_G} {A : Nat → Prop} {ad : Nat → Nat} {cB cI cZ : ClassId} {post : Int32 → Sg → Prop} {K21 : Int32 → Int32 → Sg → Prop} (X : Cx p s m args meth c cX4_recordJump 3 (some .int) RX4 wsX4_recordJump D (tyL cB cI cZ) A) (hK21 : ∀ (x1 x2 : Int32) (z : Sg), K21 x1 x2 z → WW p l e rmX4_recordJump s m args below meth c 3 D A (cW ad cB cI cZ) (QI below args s D (tyL cB cI cZ) (cW ad cB cI cZ) A post) z 21 [(0, .ref (ad 0)), (1, .int x1), (2, .int x2)] []) (x1 x2 : Int32) (z : Sg) (hp : pX4_recordJump_b21 K21 post x1 x2 z) : WW p l e rmX4_recordJump s m args below meth c 3 D A (cW ad cB cI cZ) (QI below args s D (tyL cB cI cZ) (cW ad cB cI cZ) A post) z 21 [(0, .ref (ad 0)), (1, .int x1), (2, .int x2)] [] := by
  unfold pX4_recordJump_b21 at hp
  refine ww_iload_n X dX4_recordJump_21 2 rfl ?_
  refine ww_bipush X (v := 48) dX4_recordJump_22 (by decide) ?_
  refine ww_icmp_ge X (tgt := 77) dX4_recordJump_24 (by decide) (fun h1 => ?_) (fun h1 => ?_)
  · have hp := hp.1 h1
    refine ww_iload_n X dX4_recordJump_77 1 rfl ?_
    exact ww_iret X hp dX4_recordJump_78
  · have hp := hp.2 h1
    refine ww_aload_n X dX4_recordJump_27 0 rfl ?_
    refine ww_get X in_X4_recordJump_X4 0 cg_0 rfl 2 (by decide) (X.wd 1 rfl) (v := .ref (ad 2)) rfl dX4_recordJump_28 ?_
    refine ww_iload_n X dX4_recordJump_31 2 rfl ?_
    refine ww_callN_i X (As := [.int x2]) (rest := []) (kX3_mayBeRecord l D ad cB cI cZ x2 z _ hp) (⟨va_cnB 1 X.hts gX4_recordJump_X3_mayBeRecord_n210 rfl rfl rfl (X.hE.2 _ (List.mem_of_getElem? (i := 31) rfl)) (X.wd 4 rfl) hn_X3_mayBeRecord ⟨Nat.le_of_ble_eq_true rfl, Nat.le_of_ble_eq_true rfl⟩, (X.wd 13 rfl), (X.wd 14 rfl)⟩) 2 3 cg_2 rfl rfl rfl rfl (Nat.le_of_ble_eq_true rfl) dX4_recordJump_32 (fun r3 u2 hp => ?_)
    refine ww_if_eq X (tgt := 71) dX4_recordJump_35 (by decide) (fun h4 => ?_) (fun h4 => ?_)
    · have hp := hp.1 h4
      exact wX4_recordJump_b71 X hK21 x1 x2 u2 hp
    · have hp := hp.2 h4
      refine ww_aload_n X dX4_recordJump_38 0 rfl ?_
      refine ww_get X in_X4_recordJump_X4 0 cg_0 rfl 2 (by decide) (X.wd 1 rfl) (v := .ref (ad 2)) rfl dX4_recordJump_39 ?_
      refine ww_iload_n X dX4_recordJump_42 2 rfl ?_
      refine ww_callN_i X (As := [.int x2]) (rest := []) (kX3_lengthOf l D ad cB cI cZ x2 u2 _ hp) (⟨va_cnB 1 X.hts gX4_recordJump_X3_lengthOf_n168 rfl rfl rfl (X.hE.2 _ (List.mem_of_getElem? (i := 28) rfl)) (X.wd 4 rfl) hn_X3_lengthOf ⟨Nat.le_of_ble_eq_true rfl, Nat.le_of_ble_eq_true rfl⟩, (X.wd 33 rfl), (X.wd 34 rfl)⟩) 2 3 cg_2 rfl rfl rfl rfl (Nat.le_of_ble_eq_true rfl) dX4_recordJump_43 (fun r6 u5 hp => ?_)
      refine ww_aload_n X dX4_recordJump_46 0 rfl ?_
      refine ww_get X in_X4_recordJump_X4 0 cg_0 rfl 9 (by decide) (X.wd 2 rfl) (v := .int (u5.1 3)) rfl dX4_recordJump_47 ?_
      refine ww_icmp_le X (tgt := 71) dX4_recordJump_50 (by decide) (fun h7 => ?_) (fun h7 => ?_)
      · have hp := hp.1 h7
        exact wX4_recordJump_b71 X hK21 x1 x2 u5 hp
      · have hp := hp.2 h7
        refine ww_iload_n X dX4_recordJump_53 1 rfl ?_
        refine ww_if_lt X (tgt := 69) dX4_recordJump_54 (by decide) (fun h8 => ?_) (fun h8 => ?_)
        · have hp := hp.1 h8
          exact ww_sub (lv' := [(0, .ref (ad 0)), (2, .int x2)]) [0, 2] rfl (wX4_recordJump_b69 X hK21 x2 u5 hp)
        · have hp := hp.2 h8
          refine ww_aload_n X dX4_recordJump_57 0 rfl ?_
          refine ww_get X in_X4_recordJump_X4 0 cg_0 rfl 2 (by decide) (X.wd 1 rfl) (v := .ref (ad 2)) rfl dX4_recordJump_58 ?_
          refine ww_iload_n X dX4_recordJump_61 2 rfl ?_
          refine ww_iload_n X dX4_recordJump_62 1 rfl ?_
          refine ww_callN_i X (As := [.int x2, .int x1]) (rest := []) (kX3_isLonger l D ad cB cI cZ x2 x1 u5 _ hp) (⟨va_cnB 2 X.hts gX4_recordJump_X3_isLonger_n213 rfl rfl rfl (X.hE.2 _ (List.mem_of_getElem? (i := 32) rfl)) (X.wd 4 rfl) hn_X3_isLonger ⟨Nat.le_of_ble_eq_true rfl, Nat.le_of_ble_eq_true rfl⟩, (X.wd 36 rfl), (X.wd 37 rfl)⟩) 2 3 cg_2 rfl rfl rfl rfl (Nat.le_of_ble_eq_true rfl) dX4_recordJump_63 (fun r10 u9 hp => ?_)
          refine ww_if_eq X (tgt := 71) dX4_recordJump_66 (by decide) (fun h11 => ?_) (fun h11 => ?_)
          · have hp := hp.1 h11
            exact wX4_recordJump_b71 X hK21 x1 x2 u9 hp
          · have hp := hp.2 h11
            exact ww_sub (lv' := [(0, .ref (ad 0)), (2, .int x2)]) [0, 2] rfl (wX4_recordJump_b69 X hK21 x2 u9 hp)
set_option maxHeartbeats 4000000 in
set_option maxRecDepth 100000 in
theorem wX4_recordJump_l21 {p : Program} {l : Launch} {e : Env} {s : State} {m : MethodId} {args : Array Value} {below : List Frame} {meth : Method} {c : Code} {D : va_G} {A : Nat → Prop} {ad : Nat → Nat} {cB cI cZ : ClassId} {post : Int32 → Sg → Prop}  (X : Cx p s m args meth c cX4_recordJump 3 (some .int) RX4 wsX4_recordJump D (tyL cB cI cZ) A)  (x1 x2 : Int32) (z : Sg) (hp : pX4_recordJump_l21  post x1 x2 z) : WW p l e rmX4_recordJump s m args below meth c 3 D A (cW ad cB cI cZ) (QI below args s D (tyL cB cI cZ) (cW ad cB cI cZ) A post) z 21 [(0, .ref (ad 0)), (1, .int x1), (2, .int x2)] [] := by
  have key := lp_walk (F := (fun (K : Int32 × Int32 → Sg → Prop) (a : Int32 × Int32) (z : Sg) => pX4_recordJump_b21 (fun (x1 x2 : Int32) z => K (x1, x2) z) post a.1 a.2 z)) (P := fun a z => WW p l e rmX4_recordJump s m args below meth c 3 D A (cW ad cB cI cZ) (QI below args s D (tyL cB cI cZ) (cW ad cB cI cZ) A post) z 21 [(0, .ref (ad 0)), (1, .int a.1), (2, .int a.2)] []) (fun K hK a z hp => wX4_recordJump_b21 X (fun x1 x2 z h => hK (x1, x2) z h) a.1 a.2 z hp)
  exact key (x1, x2) z hp
set_option maxHeartbeats 4000000 in
set_option maxRecDepth 100000 in
theorem kX4_recordJump (l : Launch) (D : va_G) (ad : Nat → Nat) (cB cI cZ : ClassId) (z : Sg) (post : Int32 → Sg → Prop) (hp : pX4_recordJump  z post) : Ci l D (tyL cB cI cZ) (cW ad cB cI cZ) yX4_recordJump wsX4_recordJump rmX4_recordJump [.ref (ad 0)] z post := by
  refine Ci.of (cc := cX4_recordJump) (maxL := 3) (ret := (some .int)) (by decide) rfl (Nat.le_of_ble_eq_true rfl) ?_
  intro p e s m args below meth c A X
  have X : Cx p s m args meth c cX4_recordJump 3 (some .int) RX4 wsX4_recordJump D (tyL cB cI cZ) A := X
  show WW p l e rmX4_recordJump s m args below meth c 3 D A (cW ad cB cI cZ) (QI below args s D (tyL cB cI cZ) (cW ad cB cI cZ) A post) z 0 [(0, .ref (ad 0))] []
  unfold pX4_recordJump at hp
  refine ww_aload_n X dX4_recordJump_0 0 rfl ?_
  refine ww_get X in_X4_recordJump_X4 0 cg_0 rfl 2 (by decide) (X.wd 1 rfl) (v := .ref (ad 2)) rfl dX4_recordJump_1 ?_
  refine ww_aload_n X dX4_recordJump_4 0 rfl ?_
  refine ww_get X in_X4_recordJump_X4 0 cg_0 rfl 2 (by decide) (X.wd 1 rfl) (v := .ref (ad 2)) rfl dX4_recordJump_5 ?_
  refine ww_getN X in_X4_recordJump_X3 2 cg_2 rfl 1 (by decide) (X.nest 11 rfl) (v := .ref (ad 6)) rfl dX4_recordJump_8 ?_
  refine ww_getN X in_X4_recordJump_X1 6 cg_6 rfl 3 (by decide) (X.nest 0 rfl) (v := .int (z.1 11)) rfl dX4_recordJump_11 ?_
  refine ww_callN_v X (As := [.int (z.1 11)]) (rest := []) (kX3_know l D ad cB cI cZ (z.1 11) z _ hp) (⟨va_cnB 1 X.hts gX4_recordJump_X3_know_n118 rfl rfl rfl (X.hE.2 _ (List.mem_of_getElem? (i := 16) rfl)) (X.wd 4 rfl) hn_X3_know ⟨Nat.le_of_ble_eq_true rfl, Nat.le_of_ble_eq_true rfl⟩, (X.wd 3 rfl), (X.wd 5 rfl)⟩) 2 3 cg_2 rfl rfl rfl rfl (Nat.le_of_ble_eq_true rfl) dX4_recordJump_14 (fun u1 hp => ?_)
  refine ww_iconst X (v := (-1)) dX4_recordJump_17 (by decide) ?_
  refine ww_istore_n X (lv' := [(1, .int (-1)), (0, .ref (ad 0))]) dX4_recordJump_18 (by decide) rfl ?_
  refine ww_iconst X (v := 0) dX4_recordJump_19 (by decide) ?_
  refine ww_istore_n X (lv' := [(2, .int 0), (1, .int (-1)), (0, .ref (ad 0))]) dX4_recordJump_20 (by decide) rfl ?_
  exact ww_sub (lv' := [(0, .ref (ad 0)), (1, .int (-1)), (2, .int 0)]) [2, 1, 0] rfl (wX4_recordJump_l21 X  (-1) 0 u1 hp)
set_option maxHeartbeats 4000000 in
set_option maxRecDepth 100000 in
theorem kX4_jumperOf (l : Launch) (D : va_G) (ad : Nat → Nat) (cB cI cZ : ClassId) (a0 : Int32) (z : Sg) (post : Int32 → Sg → Prop) (hp : pX4_jumperOf a0 z post) : Ci l D (tyL cB cI cZ) (cW ad cB cI cZ) yX4_jumperOf wsX4_jumperOf rmX4_jumperOf [.int a0] z post := by
  refine Ci.of (cc := cX4_jumperOf) (maxL := 1) (ret := (some .int)) (by decide) rfl (Nat.le_of_ble_eq_true rfl) ?_
  intro p e s m args below meth c A X
  have X : Cx p s m args meth c cX4_jumperOf 1 (some .int) RX4 wsX4_jumperOf D (tyL cB cI cZ) A := X
  show WW p l e rmX4_jumperOf s m args below meth c 1 D A (cW ad cB cI cZ) (QI below args s D (tyL cB cI cZ) (cW ad cB cI cZ) A post) z 0 [(0, .int a0)] []
  unfold pX4_jumperOf at hp
  refine ww_iload_n X dX4_jumperOf_0 0 rfl ?_
  refine ww_bipush X (v := 24) dX4_jumperOf_1 (by decide) ?_
  refine ww_irem X dX4_jumperOf_3 (by decide) ?_
  exact ww_iret X hp dX4_jumperOf_4
set_option maxHeartbeats 4000000 in
set_option maxRecDepth 100000 in
theorem wX4_record_b68 {p : Program} {l : Launch} {e : Env} {s : State} {m : MethodId} {args : Array Value} {below : List Frame} {meth : Method} {c : Code} {D : va_G} {A : Nat → Prop} {ad : Nat → Nat} {cB cI cZ : ClassId} {post : Int32 → Sg → Prop}  (X : Cx p s m args meth c cX4_record 3 (some .int) RX4 wsX4_record D (tyL cB cI cZ) A)  (y0 : Int32) (z : Sg) (hp : pX4_record_b68  post y0 z) : WW p l e rmX4_record s m args below meth c 3 D A (cW ad cB cI cZ) (QI below args s D (tyL cB cI cZ) (cW ad cB cI cZ) A post) z 68 [(0, .ref (ad 0))] [.int y0] := by
  unfold pX4_record_b68 at hp
  exact ww_iret X hp dX4_record_68
set_option maxHeartbeats 4000000 in
set_option maxRecDepth 100000 in
theorem wX4_record_b41 {p : Program} {l : Launch} {e : Env} {s : State} {m : MethodId} {args : Array Value} {below : List Frame} {meth : Method} {c : Code} {D : va_G} {A : Nat → Prop} {ad : Nat → Nat} {cB cI cZ : ClassId} {post : Int32 → Sg → Prop}  (X : Cx p s m args meth c cX4_record 3 (some .int) RX4 wsX4_record D (tyL cB cI cZ) A)  (y0 : Int32) (z : Sg) (hp : pX4_record_b41  post y0 z) : WW p l e rmX4_record s m args below meth c 3 D A (cW ad cB cI cZ) (QI below args s D (tyL cB cI cZ) (cW ad cB cI cZ) A post) z 41 [(0, .ref (ad 0))] [.int y0] := by
  unfold pX4_record_b41 at hp
  exact ww_iret X hp dX4_record_41
set_option maxHeartbeats 4000000 in
set_option maxRecDepth 100000 in
theorem wX4_record_b13 {p : Program} {l : Launch} {e : Env} {s : State} {m : MethodId} {args : Array Value} {below : List Frame} {meth : Method} {c : Code} {D : va_G} {A : Nat → Prop} {ad : Nat → Nat} {cB cI cZ : ClassId} {post : Int32 → Sg → Prop}  (X : Cx p s m args meth c cX4_record 3 (some .int) RX4 wsX4_record D (tyL cB cI cZ) A)  (x1 : Int32) (z : Sg) (hp : pX4_record_b13  post x1 z) : WW p l e rmX4_record s m args below meth c 3 D A (cW ad cB cI cZ) (QI below args s D (tyL cB cI cZ) (cW ad cB cI cZ) A post) z 13 [(0, .ref (ad 0)), (1, .int x1)] [] := by
  unfold pX4_record_b13 at hp
  refine ww_aload_n X dX4_record_13 0 rfl ?_
  refine ww_callV_i X (As := []) (rest := []) (kX4_recordJump l D ad cB cI cZ  z _ hp) (cwV 0 X.hts gX4_record_X4_recordJump rfl rfl rfl hd_X4_recordJump ⟨Nat.le_of_ble_eq_true rfl, Nat.le_of_ble_eq_true rfl⟩) 0 4 cg_0 rfl rfl rfl rfl (Nat.le_of_ble_eq_true rfl) dX4_record_14 (fun r2 u1 hp => ?_)
  refine ww_istore_n X (lv' := [(2, .int r2), (0, .ref (ad 0)), (1, .int x1)]) dX4_record_17 (by decide) rfl ?_
  refine ww_iload_n X dX4_record_18 0 rfl ?_
  refine ww_if_lt X (tgt := 42) dX4_record_19 (by decide) (fun h3 => ?_) (fun h3 => ?_)
  · have hp := hp.1 h3
    refine ww_aload_n X dX4_record_42 1 rfl ?_
    refine ww_get X in_X4_record_X4 0 cg_0 rfl 9 (by decide) (X.wd 2 rfl) (v := .int (u1.1 3)) rfl dX4_record_43 ?_
    refine ww_if_ge X (tgt := 53) dX4_record_46 (by decide) (fun h4 => ?_) (fun h4 => ?_)
    · have hp := hp.1 h4
      refine ww_iload_n X dX4_record_53 2 rfl ?_
      refine ww_if_ne X (tgt := 64) dX4_record_54 (by decide) (fun h5 => ?_) (fun h5 => ?_)
      · have hp := hp.1 h5
        refine ww_aload_n X dX4_record_64 1 rfl ?_
        refine ww_get X in_X4_record_X4 0 cg_0 rfl 10 (by decide) (X.wd 3 rfl) (v := .int (u1.1 4)) rfl dX4_record_65 ?_
        exact ww_sub (lv' := [(0, .ref (ad 0))]) [1] rfl (wX4_record_b68 X  (u1.1 4) u1 hp)
      · have hp := hp.2 h5
        refine ww_aload_n X dX4_record_57 1 rfl ?_
        refine ww_get X in_X4_record_X4 0 cg_0 rfl 9 (by decide) (X.wd 2 rfl) (v := .int (u1.1 3)) rfl dX4_record_58 ?_
        refine ww_goto X (tgt := 68) dX4_record_61 (by decide) ?_
        exact ww_sub (lv' := [(0, .ref (ad 0))]) [1] rfl (wX4_record_b68 X  (u1.1 3) u1 hp)
    · have hp := hp.2 h4
      refine ww_sipush X (v := (-10000)) dX4_record_49 (by decide) ?_
      exact ww_iret X hp dX4_record_52
  · have hp := hp.2 h3
    refine ww_iload_n X dX4_record_22 2 rfl ?_
    refine ww_if_ne X (tgt := 37) dX4_record_23 (by decide) (fun h6 => ?_) (fun h6 => ?_)
    · have hp := hp.1 h6
      refine ww_iload_n X dX4_record_37 0 rfl ?_
      refine ww_callS_i X (As := [.int r2]) (rest := []) (kX4_jumperOf l D ad cB cI cZ r2 u1 _ hp) (va_cwS 1 X.hts gX4_record_X4_jumperOf rfl rfl rfl hn_X4_jumperOf ⟨Nat.le_of_ble_eq_true rfl, Nat.le_of_ble_eq_true rfl⟩) rfl rfl (Nat.le_of_ble_eq_true rfl) dX4_record_38 (fun r8 u7 hp => ?_)
      exact ww_sub (lv' := [(0, .ref (ad 0))]) [1] rfl (wX4_record_b41 X  r8 u7 hp)
    · have hp := hp.2 h6
      refine ww_aload_n X dX4_record_26 1 rfl ?_
      refine ww_get X in_X4_record_X4 0 cg_0 rfl 2 (by decide) (X.wd 1 rfl) (v := .ref (ad 2)) rfl dX4_record_27 ?_
      refine ww_iload_n X dX4_record_30 0 rfl ?_
      refine ww_callN_i X (As := [.int r2]) (rest := []) (kX3_lengthOf l D ad cB cI cZ r2 u1 _ hp) (⟨va_cnB 1 X.hts gX4_record_X3_lengthOf_n168 rfl rfl rfl (X.hE.2 _ (List.mem_of_getElem? (i := 28) rfl)) (X.wd 10 rfl) hn_X3_lengthOf ⟨Nat.le_of_ble_eq_true rfl, Nat.le_of_ble_eq_true rfl⟩, (X.wd 39 rfl), (X.wd 40 rfl)⟩) 2 3 cg_2 rfl rfl rfl rfl (Nat.le_of_ble_eq_true rfl) dX4_record_31 (fun r10 u9 hp => ?_)
      refine ww_goto X (tgt := 41) dX4_record_34 (by decide) ?_
      exact ww_sub (lv' := [(0, .ref (ad 0))]) [1] rfl (wX4_record_b41 X  r10 u9 hp)
set_option maxHeartbeats 4000000 in
set_option maxRecDepth 100000 in
theorem kX4_record (l : Launch) (D : va_G) (ad : Nat → Nat) (cB cI cZ : ClassId) (a1 : Int32) (z : Sg) (post : Int32 → Sg → Prop) (hp : pX4_record a1 z post) : Ci l D (tyL cB cI cZ) (cW ad cB cI cZ) yX4_record wsX4_record rmX4_record [.ref (ad 0), .int a1] z post := by
  refine Ci.of (cc := cX4_record) (maxL := 3) (ret := (some .int)) (by decide) rfl (Nat.le_of_ble_eq_true rfl) ?_
  intro p e s m args below meth c A X
  have X : Cx p s m args meth c cX4_record 3 (some .int) RX4 wsX4_record D (tyL cB cI cZ) A := X
  show WW p l e rmX4_record s m args below meth c 3 D A (cW ad cB cI cZ) (QI below args s D (tyL cB cI cZ) (cW ad cB cI cZ) A post) z 0 [(0, .ref (ad 0)), (1, .int a1)] []
  unfold pX4_record at hp
  refine ww_iload_n X dX4_record_0 1 rfl ?_
  refine ww_if_eq X (tgt := 13) dX4_record_1 (by decide) (fun h1 => ?_) (fun h1 => ?_)
  · have hp := hp.1 h1
    exact wX4_record_b13 X  a1 z hp
  · have hp := hp.2 h1
    refine ww_iload_n X dX4_record_4 1 rfl ?_
    refine ww_iconst X (v := 1) dX4_record_5 (by decide) ?_
    refine ww_icmp_eq X (tgt := 13) dX4_record_6 (by decide) (fun h2 => ?_) (fun h2 => ?_)
    · have hp := hp.1 h2
      exact wX4_record_b13 X  a1 z hp
    · have hp := hp.2 h2
      refine ww_sipush X (v := (-10000)) dX4_record_9 (by decide) ?_
      exact ww_iret X hp dX4_record_12
set_option maxHeartbeats 4000000 in
set_option maxRecDepth 100000 in
theorem wX4_differ_b104 {p : Program} {l : Launch} {e : Env} {s : State} {m : MethodId} {args : Array Value} {below : List Frame} {meth : Method} {c : Code} {D : va_G} {A : Nat → Prop} {ad : Nat → Nat} {cB cI cZ : ClassId} {post : Int32 → Sg → Prop} {K62 : Int32 → Int32 → Int32 → Sg → Prop} (X : Cx p s m args meth c cX4_differ 6 (some .int) RX4 wsX4_differ D (tyL cB cI cZ) A) (hK62 : ∀ (x3 x4 x5 : Int32) (z : Sg), K62 x3 x4 x5 z → WW p l e rmX4_differ s m args below meth c 6 D A (cW ad cB cI cZ) (QI below args s D (tyL cB cI cZ) (cW ad cB cI cZ) A post) z 62 [(0, .ref (ad 0)), (3, .int x3), (4, .int x4), (5, .int x5)] []) (x3 x4 x5 : Int32) (z : Sg) (hp : pX4_differ_b104 K62 post x3 x4 x5 z) : WW p l e rmX4_differ s m args below meth c 6 D A (cW ad cB cI cZ) (QI below args s D (tyL cB cI cZ) (cW ad cB cI cZ) A post) z 104 [(0, .ref (ad 0)), (3, .int x3), (4, .int x4), (5, .int x5)] [] := by
  unfold pX4_differ_b104 at hp
  refine ww_iinc X (v := (x5 + 1)) (lv' := [(5, .int (x5 + 1)), (0, .ref (ad 0)), (3, .int x3), (4, .int x4)]) dX4_differ_104 3 rfl rfl (by decide) rfl ?_
  refine ww_goto X (tgt := 62) dX4_differ_107 (by decide) ?_
  exact ww_sub (lv' := [(0, .ref (ad 0)), (3, .int x3), (4, .int x4), (5, .int (x5 + 1))]) [1, 2, 3, 0] rfl (hK62 x3 x4 (x5 + 1) z hp)
set_option maxHeartbeats 4000000 in
set_option maxRecDepth 100000 in
theorem wX4_differ_b62 {p : Program} {l : Launch} {e : Env} {s : State} {m : MethodId} {args : Array Value} {below : List Frame} {meth : Method} {c : Code} {D : va_G} {A : Nat → Prop} {ad : Nat → Nat} {cB cI cZ : ClassId} {post : Int32 → Sg → Prop} {K62 : Int32 → Int32 → Int32 → Sg → Prop} (X : Cx p s m args meth c cX4_differ 6 (some .int) RX4 wsX4_differ D (tyL cB cI cZ) A) (hK62 : ∀ (x3 x4 x5 : Int32) (z : Sg), K62 x3 x4 x5 z → WW p l e rmX4_differ s m args below meth c 6 D A (cW ad cB cI cZ) (QI below args s D (tyL cB cI cZ) (cW ad cB cI cZ) A post) z 62 [(0, .ref (ad 0)), (3, .int x3), (4, .int x4), (5, .int x5)] []) (x3 x4 x5 : Int32) (z : Sg) (hp : pX4_differ_b62 K62 post x3 x4 x5 z) : WW p l e rmX4_differ s m args below meth c 6 D A (cW ad cB cI cZ) (QI below args s D (tyL cB cI cZ) (cW ad cB cI cZ) A post) z 62 [(0, .ref (ad 0)), (3, .int x3), (4, .int x4), (5, .int x5)] [] := by
  unfold pX4_differ_b62 at hp
  refine ww_iload X dX4_differ_62 3 rfl ?_
  refine ww_aload_n X dX4_differ_64 0 rfl ?_
  refine ww_get X in_X4_differ_X4 0 cg_0 rfl 7 (by decide) (X.wd 3 rfl) (v := .int (z.1 1)) rfl dX4_differ_65 ?_
  refine ww_icmp_ge X (tgt := 110) dX4_differ_68 (by decide) (fun h1 => ?_) (fun h1 => ?_)
  · have hp := hp.1 h1
    refine ww_sipush X (v := (-10000)) dX4_differ_110 (by decide) ?_
    exact ww_iret X hp dX4_differ_113
  · have hp := hp.2 h1
    refine ww_aload_n X dX4_differ_71 0 rfl ?_
    refine ww_get X in_X4_differ_X4 0 cg_0 rfl 3 (by decide) (X.wd 1 rfl) (v := .ref (ad 12)) rfl dX4_differ_72 ?_
    refine ww_iload X dX4_differ_75 3 rfl ?_
    refine ww_callN_i X (As := [.int x5]) (rest := []) (kX0_placeOf l D ad cB cI cZ x5 z _ hp) (⟨va_cnB 1 X.hts gX4_differ_X0_placeOf_n149 rfl rfl rfl (X.hE.2 _ (List.mem_of_getElem? (i := 23) rfl)) (X.wd 11 rfl) hn_X0_placeOf ⟨Nat.le_of_ble_eq_true rfl, Nat.le_of_ble_eq_true rfl⟩, (X.wd 107 rfl), (X.wd 108 rfl)⟩) 12 0 cg_12 rfl rfl rfl rfl (Nat.le_of_ble_eq_true rfl) dX4_differ_77 (fun r3 u2 hp => ?_)
    refine ww_aload_n X dX4_differ_80 0 rfl ?_
    refine ww_get X in_X4_differ_X4 0 cg_0 rfl 4 (by decide) (X.wd 4 rfl) (v := .ref (ad 18)) rfl dX4_differ_81 ?_
    refine ww_iload X dX4_differ_84 3 rfl ?_
    refine ww_callN_i X (As := [.int x5]) (rest := [.int r3]) (kX0_placeOfo l D ad cB cI cZ x5 u2 _ hp) (⟨va_cnB 1 X.hts gX4_differ_X0_placeOf_n149 rfl rfl rfl (X.hE.2 _ (List.mem_of_getElem? (i := 23) rfl)) (X.wd 11 rfl) hn_X0_placeOf ⟨Nat.le_of_ble_eq_true rfl, Nat.le_of_ble_eq_true rfl⟩, (X.wd 107 rfl), (X.wd 108 rfl)⟩) 18 0 cg_18 rfl rfl rfl rfl (Nat.le_of_ble_eq_true rfl) dX4_differ_86 (fun r5 u4 hp => ?_)
    refine ww_icmp_eq X (tgt := 104) dX4_differ_89 (by decide) (fun h6 => ?_) (fun h6 => ?_)
    · have hp := hp.1 h6
      exact wX4_differ_b104 X hK62 x3 x4 x5 u4 hp
    · have hp := hp.2 h6
      refine ww_iload X dX4_differ_92 2 rfl ?_
      refine ww_iload_n X dX4_differ_94 1 rfl ?_
      refine ww_icmp_ne X (tgt := 101) dX4_differ_95 (by decide) (fun h7 => ?_) (fun h7 => ?_)
      · have hp := hp.1 h7
        refine ww_iinc X (v := (x4 + 1)) (lv' := [(4, .int (x4 + 1)), (0, .ref (ad 0)), (3, .int x3), (5, .int x5)]) dX4_differ_101 2 rfl rfl (by decide) rfl ?_
        exact ww_sub (lv' := [(0, .ref (ad 0)), (3, .int x3), (4, .int (x4 + 1)), (5, .int x5)]) [1, 2, 0, 3] rfl (wX4_differ_b104 X hK62 x3 (x4 + 1) x5 u4 hp)
      · have hp := hp.2 h7
        refine ww_iload X dX4_differ_98 3 rfl ?_
        exact ww_iret X hp dX4_differ_100
set_option maxHeartbeats 4000000 in
set_option maxRecDepth 100000 in
theorem wX4_differ_l62 {p : Program} {l : Launch} {e : Env} {s : State} {m : MethodId} {args : Array Value} {below : List Frame} {meth : Method} {c : Code} {D : va_G} {A : Nat → Prop} {ad : Nat → Nat} {cB cI cZ : ClassId} {post : Int32 → Sg → Prop}  (X : Cx p s m args meth c cX4_differ 6 (some .int) RX4 wsX4_differ D (tyL cB cI cZ) A)  (x3 x4 x5 : Int32) (z : Sg) (hp : pX4_differ_l62  post x3 x4 x5 z) : WW p l e rmX4_differ s m args below meth c 6 D A (cW ad cB cI cZ) (QI below args s D (tyL cB cI cZ) (cW ad cB cI cZ) A post) z 62 [(0, .ref (ad 0)), (3, .int x3), (4, .int x4), (5, .int x5)] [] := by
  have key := lp_walk (F := (fun (K : Int32 × Int32 × Int32 → Sg → Prop) (a : Int32 × Int32 × Int32) (z : Sg) => pX4_differ_b62 (fun (x3 x4 x5 : Int32) z => K (x3, x4, x5) z) post a.1 a.2.1 a.2.2 z)) (P := fun a z => WW p l e rmX4_differ s m args below meth c 6 D A (cW ad cB cI cZ) (QI below args s D (tyL cB cI cZ) (cW ad cB cI cZ) A post) z 62 [(0, .ref (ad 0)), (3, .int a.1), (4, .int a.2.1), (5, .int a.2.2)] []) (fun K hK a z hp => wX4_differ_b62 X (fun x3 x4 x5 z h => hK (x3, x4, x5) z h) a.1 a.2.1 a.2.2 z hp)
  exact key (x3, x4, x5) z hp
set_option maxHeartbeats 4000000 in
set_option maxRecDepth 100000 in
theorem wX4_differ_b20 {p : Program} {l : Launch} {e : Env} {s : State} {m : MethodId} {args : Array Value} {below : List Frame} {meth : Method} {c : Code} {D : va_G} {A : Nat → Prop} {ad : Nat → Nat} {cB cI cZ : ClassId} {post : Int32 → Sg → Prop}  (X : Cx p s m args meth c cX4_differ 6 (some .int) RX4 wsX4_differ D (tyL cB cI cZ) A)  (z : Sg) (hp : pX4_differ_b20  post  z) : WW p l e rmX4_differ s m args below meth c 6 D A (cW ad cB cI cZ) (QI below args s D (tyL cB cI cZ) (cW ad cB cI cZ) A post) z 20 [(0, .ref (ad 0))] [] := by
  unfold pX4_differ_b20 at hp
  refine ww_sipush X (v := (-10000)) dX4_differ_20 (by decide) ?_
  exact ww_iret X hp dX4_differ_23
set_option maxHeartbeats 4000000 in
set_option maxRecDepth 100000 in
theorem kX4_differ (l : Launch) (D : va_G) (ad : Nat → Nat) (cB cI cZ : ClassId) (a1 a2 a3 : Int32) (z : Sg) (post : Int32 → Sg → Prop) (hp : pX4_differ a1 a2 a3 z post) : Ci l D (tyL cB cI cZ) (cW ad cB cI cZ) yX4_differ wsX4_differ rmX4_differ [.ref (ad 0), .int a1, .int a2, .int a3] z post := by
  refine Ci.of (cc := cX4_differ) (maxL := 6) (ret := (some .int)) (by decide) rfl (Nat.le_of_ble_eq_true rfl) ?_
  intro p e s m args below meth c A X
  have X : Cx p s m args meth c cX4_differ 6 (some .int) RX4 wsX4_differ D (tyL cB cI cZ) A := X
  show WW p l e rmX4_differ s m args below meth c 6 D A (cW ad cB cI cZ) (QI below args s D (tyL cB cI cZ) (cW ad cB cI cZ) A post) z 0 [(0, .ref (ad 0)), (1, .int a1), (2, .int a2), (3, .int a3)] []
  unfold pX4_differ at hp
  refine ww_aload_n X dX4_differ_0 0 rfl ?_
  refine ww_iload_n X dX4_differ_1 1 rfl ?_
  refine ww_callV_i X (As := [.int a1]) (rest := []) (kX4_isKnowing l D ad cB cI cZ a1 z _ hp) (cwV 1 X.hts gX4_differ_X4_isKnowing rfl rfl rfl hd_X4_isKnowing ⟨Nat.le_of_ble_eq_true rfl, Nat.le_of_ble_eq_true rfl⟩) 0 4 cg_0 rfl rfl rfl rfl (Nat.le_of_ble_eq_true rfl) dX4_differ_2 (fun r2 u1 hp => ?_)
  refine ww_if_eq X (tgt := 20) dX4_differ_5 (by decide) (fun h3 => ?_) (fun h3 => ?_)
  · have hp := hp.1 h3
    exact ww_sub (lv' := [(0, .ref (ad 0))]) [0] rfl (wX4_differ_b20 X   u1 hp)
  · have hp := hp.2 h3
    refine ww_aload_n X dX4_differ_8 0 rfl ?_
    refine ww_iload_n X dX4_differ_9 2 rfl ?_
    refine ww_callV_i X (As := [.int a2]) (rest := []) (kX4_isKnowing l D ad cB cI cZ a2 u1 _ hp) (cwV 1 X.hts gX4_differ_X4_isKnowing rfl rfl rfl hd_X4_isKnowing ⟨Nat.le_of_ble_eq_true rfl, Nat.le_of_ble_eq_true rfl⟩) 0 4 cg_0 rfl rfl rfl rfl (Nat.le_of_ble_eq_true rfl) dX4_differ_10 (fun r5 u4 hp => ?_)
    refine ww_if_eq X (tgt := 20) dX4_differ_13 (by decide) (fun h6 => ?_) (fun h6 => ?_)
    · have hp := hp.1 h6
      exact ww_sub (lv' := [(0, .ref (ad 0))]) [0] rfl (wX4_differ_b20 X   u4 hp)
    · have hp := hp.2 h6
      refine ww_iload_n X dX4_differ_16 3 rfl ?_
      refine ww_if_ge X (tgt := 24) dX4_differ_17 (by decide) (fun h7 => ?_) (fun h7 => ?_)
      · have hp := hp.1 h7
        refine ww_aload_n X dX4_differ_24 0 rfl ?_
        refine ww_get X in_X4_differ_X4 0 cg_0 rfl 3 (by decide) (X.wd 1 rfl) (v := .ref (ad 12)) rfl dX4_differ_25 ?_
        refine ww_aload_n X dX4_differ_28 0 rfl ?_
        refine ww_get X in_X4_differ_X4 0 cg_0 rfl 2 (by decide) (X.wd 2 rfl) (v := .ref (ad 2)) rfl dX4_differ_29 ?_
        refine ww_iload_n X dX4_differ_32 1 rfl ?_
        refine ww_aload_n X dX4_differ_33 0 rfl ?_
        refine ww_get X in_X4_differ_X4 0 cg_0 rfl 7 (by decide) (X.wd 3 rfl) (v := .int (u4.1 1)) rfl dX4_differ_34 ?_
        refine ww_callN_v X (As := [.ref (ad 2), .int a1, .int (u4.1 1)]) (rest := []) (kX0_draw l D ad cB cI cZ a1 (u4.1 1) u4 _ hp) (⟨va_cnB 3 X.hts gX4_differ_X0_draw_n136 rfl rfl rfl (X.hE.2 _ (List.mem_of_getElem? (i := 19) rfl)) (X.wd 11 rfl) hn_X0_draw ⟨Nat.le_of_ble_eq_true rfl, Nat.le_of_ble_eq_true rfl⟩, (X.wd 10 rfl), (X.wd 12 rfl)⟩) 12 0 cg_12 rfl rfl rfl rfl (Nat.le_of_ble_eq_true rfl) dX4_differ_37 (fun u8 hp => ?_)
        refine ww_aload_n X dX4_differ_40 0 rfl ?_
        refine ww_get X in_X4_differ_X4 0 cg_0 rfl 4 (by decide) (X.wd 4 rfl) (v := .ref (ad 18)) rfl dX4_differ_41 ?_
        refine ww_aload_n X dX4_differ_44 0 rfl ?_
        refine ww_get X in_X4_differ_X4 0 cg_0 rfl 2 (by decide) (X.wd 2 rfl) (v := .ref (ad 2)) rfl dX4_differ_45 ?_
        refine ww_iload_n X dX4_differ_48 2 rfl ?_
        refine ww_aload_n X dX4_differ_49 0 rfl ?_
        refine ww_get X in_X4_differ_X4 0 cg_0 rfl 7 (by decide) (X.wd 3 rfl) (v := .int (u8.1 1)) rfl dX4_differ_50 ?_
        refine ww_callN_v X (As := [.ref (ad 2), .int a2, .int (u8.1 1)]) (rest := []) (kX0_drawo l D ad cB cI cZ a2 (u8.1 1) u8 _ hp) (⟨va_cnB 3 X.hts gX4_differ_X0_draw_n136 rfl rfl rfl (X.hE.2 _ (List.mem_of_getElem? (i := 19) rfl)) (X.wd 11 rfl) hn_X0_draw ⟨Nat.le_of_ble_eq_true rfl, Nat.le_of_ble_eq_true rfl⟩, (X.wd 10 rfl), (X.wd 12 rfl)⟩) 18 0 cg_18 rfl rfl rfl rfl (Nat.le_of_ble_eq_true rfl) dX4_differ_53 (fun u10 hp => ?_)
        refine ww_iconst X (v := 0) dX4_differ_56 (by decide) ?_
        refine ww_istore X (lv' := [(4, .int 0), (0, .ref (ad 0)), (1, .int a1), (2, .int a2), (3, .int a3)]) dX4_differ_57 (by decide) rfl ?_
        refine ww_iconst X (v := 0) dX4_differ_59 (by decide) ?_
        refine ww_istore X (lv' := [(5, .int 0), (4, .int 0), (0, .ref (ad 0)), (1, .int a1), (2, .int a2), (3, .int a3)]) dX4_differ_60 (by decide) rfl ?_
        exact ww_sub (lv' := [(0, .ref (ad 0)), (3, .int a3), (4, .int 0), (5, .int 0)]) [2, 5, 1, 0] rfl (wX4_differ_l62 X  a3 0 0 u10 hp)
      · have hp := hp.2 h7
        exact ww_sub (lv' := [(0, .ref (ad 0))]) [0] rfl (wX4_differ_b20 X   u4 hp)
set_option maxHeartbeats 4000000 in
set_option maxRecDepth 100000 in
theorem wX4_seasonPoints_b24 {p : Program} {l : Launch} {e : Env} {s : State} {m : MethodId} {args : Array Value} {below : List Frame} {meth : Method} {c : Code} {D : va_G} {A : Nat → Prop} {ad : Nat → Nat} {cB cI cZ : ClassId} {post : Int32 → Sg → Prop}  (X : Cx p s m args meth c cX4_seasonPoints 1 (some .int) RX4 wsX4_seasonPoints D (tyL cB cI cZ) A)  (y0 : Int32) (z : Sg) (hp : pX4_seasonPoints_b24  post y0 z) : WW p l e rmX4_seasonPoints s m args below meth c 1 D A (cW ad cB cI cZ) (QI below args s D (tyL cB cI cZ) (cW ad cB cI cZ) A post) z 24 [] [.int y0] := by
  unfold pX4_seasonPoints_b24 at hp
  exact ww_iret X hp dX4_seasonPoints_24
set_option maxHeartbeats 4000000 in
set_option maxRecDepth 100000 in
theorem wX4_seasonPoints_b23 {p : Program} {l : Launch} {e : Env} {s : State} {m : MethodId} {args : Array Value} {below : List Frame} {meth : Method} {c : Code} {D : va_G} {A : Nat → Prop} {ad : Nat → Nat} {cB cI cZ : ClassId} {post : Int32 → Sg → Prop}  (X : Cx p s m args meth c cX4_seasonPoints 1 (some .int) RX4 wsX4_seasonPoints D (tyL cB cI cZ) A)  (z : Sg) (hp : pX4_seasonPoints_b23  post  z) : WW p l e rmX4_seasonPoints s m args below meth c 1 D A (cW ad cB cI cZ) (QI below args s D (tyL cB cI cZ) (cW ad cB cI cZ) A post) z 23 [] [] := by
  unfold pX4_seasonPoints_b23 at hp
  refine ww_iconst X (v := 0) dX4_seasonPoints_23 (by decide) ?_
  exact wX4_seasonPoints_b24 X  0 z hp
set_option maxHeartbeats 4000000 in
set_option maxRecDepth 100000 in
theorem kX4_seasonPoints (l : Launch) (D : va_G) (ad : Nat → Nat) (cB cI cZ : ClassId) (a0 : Int32) (z : Sg) (post : Int32 → Sg → Prop) (hp : pX4_seasonPoints a0 z post) : Ci l D (tyL cB cI cZ) (cW ad cB cI cZ) yX4_seasonPoints wsX4_seasonPoints rmX4_seasonPoints [.int a0] z post := by
  refine Ci.of (cc := cX4_seasonPoints) (maxL := 1) (ret := (some .int)) (by decide) rfl (Nat.le_of_ble_eq_true rfl) ?_
  intro p e s m args below meth c A X
  have X : Cx p s m args meth c cX4_seasonPoints 1 (some .int) RX4 wsX4_seasonPoints D (tyL cB cI cZ) A := X
  show WW p l e rmX4_seasonPoints s m args below meth c 1 D A (cW ad cB cI cZ) (QI below args s D (tyL cB cI cZ) (cW ad cB cI cZ) A post) z 0 [(0, .int a0)] []
  unfold pX4_seasonPoints at hp
  refine ww_iload_n X dX4_seasonPoints_0 0 rfl ?_
  refine ww_iconst X (v := 1) dX4_seasonPoints_1 (by decide) ?_
  refine ww_icmp_lt X (tgt := 23) dX4_seasonPoints_2 (by decide) (fun h1 => ?_) (fun h1 => ?_)
  · have hp := hp.1 h1
    exact ww_sub (lv' := []) [] rfl (wX4_seasonPoints_b23 X   z hp)
  · have hp := hp.2 h1
    refine ww_iload_n X dX4_seasonPoints_5 0 rfl ?_
    obtain ⟨t2, hzt2, hTt2⟩ := X.hE.1.1
    refine ww_gets X hzt2 (X.wd 1 rfl) dX4_seasonPoints_6 ?_
    refine ww_tlen X hTt2 (v := 24) (by decide) dX4_seasonPoints_9 ?_
    refine ww_icmp_gt X (tgt := 23) dX4_seasonPoints_10 (by decide) (fun h3 => ?_) (fun h3 => ?_)
    · have hp := hp.1 h3
      exact ww_sub (lv' := []) [] rfl (wX4_seasonPoints_b23 X   z hp)
    · have hp := hp.2 h3
      obtain ⟨t4, hzt4, hTt4⟩ := X.hE.1.1
      refine ww_gets X hzt4 (X.wd 1 rfl) dX4_seasonPoints_13 ?_
      refine ww_iload_n X dX4_seasonPoints_16 0 rfl ?_
      refine ww_iconst X (v := 1) dX4_seasonPoints_17 (by decide) ?_
      refine ww_isub X dX4_seasonPoints_18 ?_
      obtain ⟨h5, hp⟩ := hp
      refine ww_ti X hTt4 h5 dX4_seasonPoints_19 ?_
      refine ww_goto X (tgt := 24) dX4_seasonPoints_20 (by decide) ?_
      exact ww_sub (lv' := []) [] rfl (wX4_seasonPoints_b24 X  (tb_SEASON_ROW (a0 - 1).toNatClampNeg) z hp)
set_option maxHeartbeats 4000000 in
set_option maxRecDepth 100000 in
theorem wX4_keepRecord_b29 {p : Program} {l : Launch} {e : Env} {s : State} {m : MethodId} {args : Array Value} {below : List Frame} {meth : Method} {c : Code} {D : va_G} {A : Nat → Prop} {ad : Nat → Nat} {cB cI cZ : ClassId} {post : Sg → Prop}  (X : Cx p s m args meth c cX4_keepRecord 2 none RX4 wsX4_keepRecord D (tyL cB cI cZ) A)  (z : Sg) (hp : pX4_keepRecord_b29  post  z) : WW p l e rmX4_keepRecord s m args below meth c 2 D A (cW ad cB cI cZ) (QV below args s D (tyL cB cI cZ) (cW ad cB cI cZ) A post) z 29 [(0, .ref (ad 0))] [] := by
  unfold pX4_keepRecord_b29 at hp
  exact ww_vret X hp dX4_keepRecord_29
set_option maxHeartbeats 4000000 in
set_option maxRecDepth 100000 in
theorem kX4_keepRecord (l : Launch) (D : va_G) (ad : Nat → Nat) (cB cI cZ : ClassId) (z : Sg) (post : Sg → Prop) (hp : pX4_keepRecord  z post) : Cv l D (tyL cB cI cZ) (cW ad cB cI cZ) yX4_keepRecord wsX4_keepRecord rmX4_keepRecord [.ref (ad 0)] z post := by
  refine Cv.of (cc := cX4_keepRecord) (maxL := 2) (ret := none) (by decide) rfl (Nat.le_of_ble_eq_true rfl) ?_
  intro p e s m args below meth c A X
  have X : Cx p s m args meth c cX4_keepRecord 2 none RX4 wsX4_keepRecord D (tyL cB cI cZ) A := X
  show WW p l e rmX4_keepRecord s m args below meth c 2 D A (cW ad cB cI cZ) (QV below args s D (tyL cB cI cZ) (cW ad cB cI cZ) A post) z 0 [(0, .ref (ad 0))] []
  unfold pX4_keepRecord at hp
  refine ww_aload_n X dX4_keepRecord_0 0 rfl ?_
  refine ww_callV_i X (As := []) (rest := []) (kX4_recordJump l D ad cB cI cZ  z _ hp) (cwV 0 X.hts gX4_keepRecord_X4_recordJump rfl rfl rfl hd_X4_recordJump ⟨Nat.le_of_ble_eq_true rfl, Nat.le_of_ble_eq_true rfl⟩) 0 4 cg_0 rfl rfl rfl rfl (Nat.le_of_ble_eq_true rfl) dX4_keepRecord_1 (fun r2 u1 hp => ?_)
  refine ww_istore_n X (lv' := [(1, .int r2), (0, .ref (ad 0))]) dX4_keepRecord_4 (by decide) rfl ?_
  refine ww_iload_n X dX4_keepRecord_5 0 rfl ?_
  refine ww_if_lt X (tgt := 29) dX4_keepRecord_6 (by decide) (fun h3 => ?_) (fun h3 => ?_)
  · have hp := hp.1 h3
    exact ww_sub (lv' := [(0, .ref (ad 0))]) [1] rfl (wX4_keepRecord_b29 X   u1 hp)
  · have hp := hp.2 h3
    refine ww_aload_n X dX4_keepRecord_9 1 rfl ?_
    refine ww_aload_n X dX4_keepRecord_10 1 rfl ?_
    refine ww_get X in_X4_keepRecord_X4 0 cg_0 rfl 2 (by decide) (X.wd 1 rfl) (v := .ref (ad 2)) rfl dX4_keepRecord_11 ?_
    refine ww_iload_n X dX4_keepRecord_14 0 rfl ?_
    refine ww_callN_i X (As := [.int r2]) (rest := [.ref (ad 0)]) (kX3_lengthOf l D ad cB cI cZ r2 u1 _ hp) (⟨va_cnB 1 X.hts gX4_keepRecord_X3_lengthOf_n168 rfl rfl rfl (X.hE.2 _ (List.mem_of_getElem? (i := 28) rfl)) (X.wd 10 rfl) hn_X3_lengthOf ⟨Nat.le_of_ble_eq_true rfl, Nat.le_of_ble_eq_true rfl⟩, (X.wd 39 rfl), (X.wd 40 rfl)⟩) 2 3 cg_2 rfl rfl rfl rfl (Nat.le_of_ble_eq_true rfl) dX4_keepRecord_15 (fun r5 u4 hp => ?_)
    refine ww_put X in_X4_keepRecord_X4 tyX4 tyX4_ok nmX4 0 cg_0 rfl 9 (by decide) (X.wd 2 rfl) rfl pd_X4_9 (Nat.le_of_ble_eq_true rfl) (sg' := (sS u4 3 r5)) cs_3 dX4_keepRecord_18 ?_
    refine ww_aload_n X dX4_keepRecord_21 1 rfl ?_
    refine ww_iload_n X dX4_keepRecord_22 0 rfl ?_
    refine ww_callS_i X (As := [.int r2]) (rest := [.ref (ad 0)]) (kX4_jumperOf l D ad cB cI cZ r2 (sS u4 3 r5) _ hp) (va_cwS 1 X.hts gX4_keepRecord_X4_jumperOf rfl rfl rfl hn_X4_jumperOf ⟨Nat.le_of_ble_eq_true rfl, Nat.le_of_ble_eq_true rfl⟩) rfl rfl (Nat.le_of_ble_eq_true rfl) dX4_keepRecord_23 (fun r7 u6 hp => ?_)
    refine ww_put X in_X4_keepRecord_X4 tyX4 tyX4_ok nmX4 0 cg_0 rfl 10 (by decide) (X.wd 3 rfl) rfl pd_X4_10 (Nat.le_of_ble_eq_true rfl) (sg' := (sS u6 4 r7)) cs_4 dX4_keepRecord_26 ?_
    exact ww_sub (lv' := [(0, .ref (ad 0))]) [1] rfl (wX4_keepRecord_b29 X   (sS u6 4 r7) hp)
set_option maxHeartbeats 4000000 in
set_option maxRecDepth 100000 in
theorem wX4_close_b81 {p : Program} {l : Launch} {e : Env} {s : State} {m : MethodId} {args : Array Value} {below : List Frame} {meth : Method} {c : Code} {D : va_G} {A : Nat → Prop} {ad : Nat → Nat} {cB cI cZ : ClassId} {post : Int32 → Sg → Prop}  (X : Cx p s m args meth c cX4_close 2 (some .int) RX4 wsX4_close D (tyL cB cI cZ) A)  (z : Sg) (hp : pX4_close_b81  post  z) : WW p l e rmX4_close s m args below meth c 2 D A (cW ad cB cI cZ) (QI below args s D (tyL cB cI cZ) (cW ad cB cI cZ) A post) z 81 [(0, .ref (ad 0))] [] := by
  unfold pX4_close_b81 at hp
  refine ww_aload_n X dX4_close_81 0 rfl ?_
  refine ww_callV_v X (As := []) (rest := []) (kX4_keepRecord l D ad cB cI cZ  z _ hp) (cwV 0 X.hts gX4_close_X4_keepRecord rfl rfl rfl hd_X4_keepRecord ⟨Nat.le_of_ble_eq_true rfl, Nat.le_of_ble_eq_true rfl⟩) 0 4 cg_0 rfl rfl rfl rfl (Nat.le_of_ble_eq_true rfl) dX4_close_82 (fun u1 hp => ?_)
  refine ww_aload_n X dX4_close_85 0 rfl ?_
  refine ww_get X in_X4_close_X4 0 cg_0 rfl 2 (by decide) (X.wd 2 rfl) (v := .ref (ad 2)) rfl dX4_close_86 ?_
  refine ww_getN X in_X4_close_X3 2 cg_2 rfl 1 (by decide) (X.nest 11 rfl) (v := .ref (ad 6)) rfl dX4_close_89 ?_
  refine ww_iconst X (v := 0) dX4_close_92 (by decide) ?_
  refine ww_putN X in_X4_close_X1 tyX1 tyX1_ok nmX1 6 cg_6 rfl 3 (by decide) (X.nest 0 rfl) rfl pd_X1_3 (Nat.le_of_ble_eq_true rfl) (sg' := (sS u1 11 0)) cs_11 dX4_close_93 ?_
  refine ww_aload_n X dX4_close_96 0 rfl ?_
  refine ww_dup X dX4_close_97 rfl ?_
  refine ww_get X in_X4_close_X4 0 cg_0 rfl 8 (by decide) (X.wd 5 rfl) (v := .int (u1.1 2)) rfl dX4_close_98 ?_
  refine ww_iconst X (v := 1) dX4_close_101 (by decide) ?_
  refine ww_iadd X dX4_close_102 ?_
  refine ww_put X in_X4_close_X4 tyX4 tyX4_ok nmX4 0 cg_0 rfl 8 (by decide) (X.wd 5 rfl) rfl pd_X4_8 (Nat.le_of_ble_eq_true rfl) (sg' := (sS (sS u1 11 0) 2 ((u1.1 2) + 1))) cs_2 dX4_close_103 ?_
  refine ww_aload_n X dX4_close_106 0 rfl ?_
  refine ww_get X in_X4_close_X4 0 cg_0 rfl 3 (by decide) (X.wd 1 rfl) (v := .ref (ad 12)) rfl dX4_close_107 ?_
  refine ww_getN X in_X4_close_X0 12 cg_12 rfl 5 (by decide) (X.nest 2 rfl) (v := .int (u1.1 12)) rfl dX4_close_110 ?_
  exact ww_iret X hp dX4_close_113
set_option maxHeartbeats 4000000 in
set_option maxRecDepth 100000 in
theorem wX4_close_b41 {p : Program} {l : Launch} {e : Env} {s : State} {m : MethodId} {args : Array Value} {below : List Frame} {meth : Method} {c : Code} {D : va_G} {A : Nat → Prop} {ad : Nat → Nat} {cB cI cZ : ClassId} {post : Int32 → Sg → Prop} {K41 : Int32 → Sg → Prop} (X : Cx p s m args meth c cX4_close 2 (some .int) RX4 wsX4_close D (tyL cB cI cZ) A) (hK41 : ∀ (x1 : Int32) (z : Sg), K41 x1 z → WW p l e rmX4_close s m args below meth c 2 D A (cW ad cB cI cZ) (QI below args s D (tyL cB cI cZ) (cW ad cB cI cZ) A post) z 41 [(0, .ref (ad 0)), (1, .int x1)] []) (x1 : Int32) (z : Sg) (hp : pX4_close_b41 K41 post x1 z) : WW p l e rmX4_close s m args below meth c 2 D A (cW ad cB cI cZ) (QI below args s D (tyL cB cI cZ) (cW ad cB cI cZ) A post) z 41 [(0, .ref (ad 0)), (1, .int x1)] [] := by
  unfold pX4_close_b41 at hp
  refine ww_iload_n X dX4_close_41 1 rfl ?_
  refine ww_aload_n X dX4_close_42 0 rfl ?_
  refine ww_get X in_X4_close_X4 0 cg_0 rfl 7 (by decide) (X.wd 3 rfl) (v := .int (z.1 1)) rfl dX4_close_43 ?_
  refine ww_icmp_ge X (tgt := 81) dX4_close_46 (by decide) (fun h1 => ?_) (fun h1 => ?_)
  · have hp := hp.1 h1
    exact ww_sub (lv' := [(0, .ref (ad 0))]) [0] rfl (wX4_close_b81 X   z hp)
  · have hp := hp.2 h1
    refine ww_iload_n X dX4_close_49 1 rfl ?_
    refine ww_bipush X (v := 24) dX4_close_50 (by decide) ?_
    refine ww_icmp_ge X (tgt := 81) dX4_close_52 (by decide) (fun h2 => ?_) (fun h2 => ?_)
    · have hp := hp.1 h2
      exact ww_sub (lv' := [(0, .ref (ad 0))]) [0] rfl (wX4_close_b81 X   z hp)
    · have hp := hp.2 h2
      refine ww_aload_n X dX4_close_55 0 rfl ?_
      refine ww_get X in_X4_close_X4 0 cg_0 rfl 6 (by decide) (X.wd 4 rfl) (v := .ref (ad 25)) rfl dX4_close_56 ?_
      refine ww_iload_n X dX4_close_59 1 rfl ?_
      refine ww_dup2 X dX4_close_60 rfl rfl ?_
      obtain ⟨h3, hp⟩ := hp
      refine ww_iald X 25 1 cg_25 rfl (v := (gA z 19 x1)) h3 rfl dX4_close_61 ?_
      refine ww_aload_n X dX4_close_62 0 rfl ?_
      refine ww_get X in_X4_close_X4 0 cg_0 rfl 3 (by decide) (X.wd 1 rfl) (v := .ref (ad 12)) rfl dX4_close_63 ?_
      refine ww_iload_n X dX4_close_66 1 rfl ?_
      refine ww_callN_i X (As := [.int x1]) (rest := [.int (gA z 19 x1), .int x1, .ref (ad 25)]) (kX0_placeOf l D ad cB cI cZ x1 z _ hp) (⟨va_cnB 1 X.hts gX4_close_X0_placeOf_n149 rfl rfl rfl (X.hE.2 _ (List.mem_of_getElem? (i := 23) rfl)) (X.wd 7 rfl) hn_X0_placeOf ⟨Nat.le_of_ble_eq_true rfl, Nat.le_of_ble_eq_true rfl⟩, (X.wd 103 rfl), (X.wd 104 rfl)⟩) 12 0 cg_12 rfl rfl rfl rfl (Nat.le_of_ble_eq_true rfl) dX4_close_67 (fun r5 u4 hp => ?_)
      refine ww_callS_i X (As := [.int r5]) (rest := [.int (gA z 19 x1), .int x1, .ref (ad 25)]) (kX4_seasonPoints l D ad cB cI cZ r5 u4 _ hp) (va_cwS 1 X.hts gX4_close_X4_seasonPoints rfl rfl rfl hn_X4_seasonPoints ⟨Nat.le_of_ble_eq_true rfl, Nat.le_of_ble_eq_true rfl⟩) rfl rfl (Nat.le_of_ble_eq_true rfl) dX4_close_70 (fun r7 u6 hp => ?_)
      refine ww_iadd X dX4_close_73 ?_
      obtain ⟨h8, hp⟩ := hp
      refine ww_iast X 25 1 cg_25 rfl (sg' := (sA u6 19 x1 ((gA z 19 x1) + r7))) h8 ca_25 dX4_close_74 ?_
      refine ww_iinc X (v := (x1 + 1)) (lv' := [(1, .int (x1 + 1)), (0, .ref (ad 0))]) dX4_close_75 1 rfl rfl (by decide) rfl ?_
      refine ww_goto X (tgt := 41) dX4_close_78 (by decide) ?_
      exact ww_sub (lv' := [(0, .ref (ad 0)), (1, .int (x1 + 1))]) [1, 0] rfl (hK41 (x1 + 1) (sA u6 19 x1 ((gA z 19 x1) + r7)) hp)
set_option maxHeartbeats 4000000 in
set_option maxRecDepth 100000 in
theorem wX4_close_l41 {p : Program} {l : Launch} {e : Env} {s : State} {m : MethodId} {args : Array Value} {below : List Frame} {meth : Method} {c : Code} {D : va_G} {A : Nat → Prop} {ad : Nat → Nat} {cB cI cZ : ClassId} {post : Int32 → Sg → Prop}  (X : Cx p s m args meth c cX4_close 2 (some .int) RX4 wsX4_close D (tyL cB cI cZ) A)  (x1 : Int32) (z : Sg) (hp : pX4_close_l41  post x1 z) : WW p l e rmX4_close s m args below meth c 2 D A (cW ad cB cI cZ) (QI below args s D (tyL cB cI cZ) (cW ad cB cI cZ) A post) z 41 [(0, .ref (ad 0)), (1, .int x1)] [] := by
  have key := lp_walk (F := (fun (K : Int32 → Sg → Prop) (a : Int32) (z : Sg) => pX4_close_b41 (fun (x1 : Int32) z => K x1 z) post a z)) (P := fun a z => WW p l e rmX4_close s m args below meth c 2 D A (cW ad cB cI cZ) (QI below args s D (tyL cB cI cZ) (cW ad cB cI cZ) A post) z 41 [(0, .ref (ad 0)), (1, .int a)] []) (fun K hK a z hp => wX4_close_b41 X (fun x1 z h => hK x1 z h) a z hp)
  exact key x1 z hp
set_option maxHeartbeats 4000000 in
set_option maxRecDepth 100000 in
theorem kX4_close (l : Launch) (D : va_G) (ad : Nat → Nat) (cB cI cZ : ClassId) (z : Sg) (post : Int32 → Sg → Prop) (hp : pX4_close  z post) : Ci l D (tyL cB cI cZ) (cW ad cB cI cZ) yX4_close wsX4_close rmX4_close [.ref (ad 0)] z post := by
  refine Ci.of (cc := cX4_close) (maxL := 2) (ret := (some .int)) (by decide) rfl (Nat.le_of_ble_eq_true rfl) ?_
  intro p e s m args below meth c A X
  have X : Cx p s m args meth c cX4_close 2 (some .int) RX4 wsX4_close D (tyL cB cI cZ) A := X
  show WW p l e rmX4_close s m args below meth c 2 D A (cW ad cB cI cZ) (QI below args s D (tyL cB cI cZ) (cW ad cB cI cZ) A post) z 0 [(0, .ref (ad 0))] []
  unfold pX4_close at hp
  refine ww_aload_n X dX4_close_0 0 rfl ?_
  refine ww_get X in_X4_close_X4 0 cg_0 rfl 3 (by decide) (X.wd 1 rfl) (v := .ref (ad 12)) rfl dX4_close_1 ?_
  refine ww_aload_n X dX4_close_4 0 rfl ?_
  refine ww_get X in_X4_close_X4 0 cg_0 rfl 2 (by decide) (X.wd 2 rfl) (v := .ref (ad 2)) rfl dX4_close_5 ?_
  refine ww_aload_n X dX4_close_8 0 rfl ?_
  refine ww_get X in_X4_close_X4 0 cg_0 rfl 2 (by decide) (X.wd 2 rfl) (v := .ref (ad 2)) rfl dX4_close_9 ?_
  refine ww_getN X in_X4_close_X3 2 cg_2 rfl 1 (by decide) (X.nest 11 rfl) (v := .ref (ad 6)) rfl dX4_close_12 ?_
  refine ww_getN X in_X4_close_X1 6 cg_6 rfl 3 (by decide) (X.nest 0 rfl) (v := .int (z.1 11)) rfl dX4_close_15 ?_
  refine ww_aload_n X dX4_close_18 0 rfl ?_
  refine ww_get X in_X4_close_X4 0 cg_0 rfl 7 (by decide) (X.wd 3 rfl) (v := .int (z.1 1)) rfl dX4_close_19 ?_
  refine ww_callN_v X (As := [.ref (ad 2), .int (z.1 11), .int (z.1 1)]) (rest := []) (kX0_draw l D ad cB cI cZ (z.1 11) (z.1 1) z _ hp) (⟨va_cnB 3 X.hts gX4_close_X0_draw_n136 rfl rfl rfl (X.hE.2 _ (List.mem_of_getElem? (i := 19) rfl)) (X.wd 7 rfl) hn_X0_draw ⟨Nat.le_of_ble_eq_true rfl, Nat.le_of_ble_eq_true rfl⟩, (X.wd 6 rfl), (X.wd 8 rfl)⟩) 12 0 cg_12 rfl rfl rfl rfl (Nat.le_of_ble_eq_true rfl) dX4_close_22 (fun u1 hp => ?_)
  refine ww_aload_n X dX4_close_25 0 rfl ?_
  refine ww_get X in_X4_close_X4 0 cg_0 rfl 3 (by decide) (X.wd 1 rfl) (v := .ref (ad 12)) rfl dX4_close_26 ?_
  refine ww_getN X in_X4_close_X0 12 cg_12 rfl 5 (by decide) (X.nest 2 rfl) (v := .int (u1.1 12)) rfl dX4_close_29 ?_
  refine ww_if_ne X (tgt := 39) dX4_close_32 (by decide) (fun h3 => ?_) (fun h3 => ?_)
  · have hp := hp.1 h3
    refine ww_iconst X (v := 0) dX4_close_39 (by decide) ?_
    refine ww_istore_n X (lv' := [(1, .int 0), (0, .ref (ad 0))]) dX4_close_40 (by decide) rfl ?_
    exact ww_sub (lv' := [(0, .ref (ad 0)), (1, .int 0)]) [1, 0] rfl (wX4_close_l41 X  0 u1 hp)
  · have hp := hp.2 h3
    refine ww_sipush X (v := (-10000)) dX4_close_35 (by decide) ?_
    exact ww_iret X hp dX4_close_38
set_option maxHeartbeats 4000000 in
set_option maxRecDepth 100000 in
theorem wX4_count_b179 {p : Program} {l : Launch} {e : Env} {s : State} {m : MethodId} {args : Array Value} {below : List Frame} {meth : Method} {c : Code} {D : va_G} {A : Nat → Prop} {ad : Nat → Nat} {cB cI cZ : ClassId} {post : Int32 → Sg → Prop}  (X : Cx p s m args meth c cX4_count 2 (some .int) RX4 wsX4_count D (tyL cB cI cZ) A)  (y0 : Int32) (z : Sg) (hp : pX4_count_b179  post y0 z) : WW p l e rmX4_count s m args below meth c 2 D A (cW ad cB cI cZ) (QI below args s D (tyL cB cI cZ) (cW ad cB cI cZ) A post) z 179 [(0, .ref (ad 0))] [.int y0] := by
  unfold pX4_count_b179 at hp
  exact ww_iret X hp dX4_count_179
set_option maxHeartbeats 4000000 in
set_option maxRecDepth 100000 in
theorem wX4_count_b176 {p : Program} {l : Launch} {e : Env} {s : State} {m : MethodId} {args : Array Value} {below : List Frame} {meth : Method} {c : Code} {D : va_G} {A : Nat → Prop} {ad : Nat → Nat} {cB cI cZ : ClassId} {post : Int32 → Sg → Prop}  (X : Cx p s m args meth c cX4_count 2 (some .int) RX4 wsX4_count D (tyL cB cI cZ) A)  (z : Sg) (hp : pX4_count_b176  post  z) : WW p l e rmX4_count s m args below meth c 2 D A (cW ad cB cI cZ) (QI below args s D (tyL cB cI cZ) (cW ad cB cI cZ) A post) z 176 [(0, .ref (ad 0))] [] := by
  unfold pX4_count_b176 at hp
  refine ww_sipush X (v := (-10000)) dX4_count_176 (by decide) ?_
  exact wX4_count_b179 X  (-10000) z hp
set_option maxHeartbeats 4000000 in
set_option maxRecDepth 100000 in
theorem kX4_count (l : Launch) (D : va_G) (ad : Nat → Nat) (cB cI cZ : ClassId) (a1 : Int32) (z : Sg) (post : Int32 → Sg → Prop) (hp : pX4_count a1 z post) : Ci l D (tyL cB cI cZ) (cW ad cB cI cZ) yX4_count wsX4_count rmX4_count [.ref (ad 0), .int a1] z post := by
  refine Ci.of (cc := cX4_count) (maxL := 2) (ret := (some .int)) (by decide) rfl (Nat.le_of_ble_eq_true rfl) ?_
  intro p e s m args below meth c A X
  have X : Cx p s m args meth c cX4_count 2 (some .int) RX4 wsX4_count D (tyL cB cI cZ) A := X
  show WW p l e rmX4_count s m args below meth c 2 D A (cW ad cB cI cZ) (QI below args s D (tyL cB cI cZ) (cW ad cB cI cZ) A post) z 0 [(0, .ref (ad 0)), (1, .int a1)] []
  unfold pX4_count at hp
  refine ww_iload_n X dX4_count_0 1 rfl ?_
  rcases Classical.em (a1 = 0) with h1 | h1
  · have hp := hp.1 h1
    refine ww_tin X (0) (off := 43) (tgt := 44) dX4_count_1 h1 (by decide) (by decide) (by decide) (by decide) ?_
    refine ww_aload_n X dX4_count_44 0 rfl ?_
    refine ww_get X in_X4_count_X4 0 cg_0 rfl 7 (by decide) (X.wd 1 rfl) (v := .int (z.1 1)) rfl dX4_count_45 ?_
    exact ww_iret X hp dX4_count_48
  have hp := hp.2 h1
  rcases Classical.em (a1 = 1) with h2 | h2
  · have hp := hp.1 h2
    refine ww_tin X (1) (off := 48) (tgt := 49) dX4_count_1 h2 (by decide) (by decide) (by decide) (by decide) ?_
    refine ww_aload_n X dX4_count_49 0 rfl ?_
    refine ww_get X in_X4_count_X4 0 cg_0 rfl 2 (by decide) (X.wd 2 rfl) (v := .ref (ad 2)) rfl dX4_count_50 ?_
    refine ww_getN X in_X4_count_X3 2 cg_2 rfl 1 (by decide) (X.nest 11 rfl) (v := .ref (ad 6)) rfl dX4_count_53 ?_
    refine ww_getN X in_X4_count_X1 6 cg_6 rfl 3 (by decide) (X.nest 0 rfl) (v := .int (z.1 11)) rfl dX4_count_56 ?_
    exact ww_iret X hp dX4_count_59
  have hp := hp.2 h2
  rcases Classical.em (a1 = 2) with h3 | h3
  · have hp := hp.1 h3
    refine ww_tin X (2) (off := 59) (tgt := 60) dX4_count_1 h3 (by decide) (by decide) (by decide) (by decide) ?_
    refine ww_aload_n X dX4_count_60 0 rfl ?_
    refine ww_get X in_X4_count_X4 0 cg_0 rfl 8 (by decide) (X.wd 3 rfl) (v := .int (z.1 2)) rfl dX4_count_61 ?_
    exact ww_iret X hp dX4_count_64
  have hp := hp.2 h3
  rcases Classical.em (a1 = 3) with h4 | h4
  · have hp := hp.1 h4
    refine ww_tin X (3) (off := 64) (tgt := 65) dX4_count_1 h4 (by decide) (by decide) (by decide) (by decide) ?_
    refine ww_aload_n X dX4_count_65 0 rfl ?_
    refine ww_get X in_X4_count_X4 0 cg_0 rfl 2 (by decide) (X.wd 2 rfl) (v := .ref (ad 2)) rfl dX4_count_66 ?_
    refine ww_getN X in_X4_count_X3 2 cg_2 rfl 3 (by decide) (X.nest 10 rfl) (v := .int (z.1 5)) rfl dX4_count_69 ?_
    exact ww_iret X hp dX4_count_72
  have hp := hp.2 h4
  rcases Classical.em (a1 = 4) with h5 | h5
  · have hp := hp.1 h5
    refine ww_tin X (4) (off := 72) (tgt := 73) dX4_count_1 h5 (by decide) (by decide) (by decide) (by decide) ?_
    refine ww_aload_n X dX4_count_73 0 rfl ?_
    refine ww_get X in_X4_count_X4 0 cg_0 rfl 3 (by decide) (X.wd 4 rfl) (v := .ref (ad 12)) rfl dX4_count_74 ?_
    refine ww_aload_n X dX4_count_77 0 rfl ?_
    refine ww_get X in_X4_count_X4 0 cg_0 rfl 2 (by decide) (X.wd 2 rfl) (v := .ref (ad 2)) rfl dX4_count_78 ?_
    refine ww_aload_n X dX4_count_81 0 rfl ?_
    refine ww_get X in_X4_count_X4 0 cg_0 rfl 2 (by decide) (X.wd 2 rfl) (v := .ref (ad 2)) rfl dX4_count_82 ?_
    refine ww_getN X in_X4_count_X3 2 cg_2 rfl 1 (by decide) (X.nest 11 rfl) (v := .ref (ad 6)) rfl dX4_count_85 ?_
    refine ww_getN X in_X4_count_X1 6 cg_6 rfl 3 (by decide) (X.nest 0 rfl) (v := .int (z.1 11)) rfl dX4_count_88 ?_
    refine ww_aload_n X dX4_count_91 0 rfl ?_
    refine ww_get X in_X4_count_X4 0 cg_0 rfl 7 (by decide) (X.wd 1 rfl) (v := .int (z.1 1)) rfl dX4_count_92 ?_
    refine ww_callN_v X (As := [.ref (ad 2), .int (z.1 11), .int (z.1 1)]) (rest := []) (kX0_draw l D ad cB cI cZ (z.1 11) (z.1 1) z _ hp) (⟨va_cnB 3 X.hts gX4_count_X0_draw_n136 rfl rfl rfl (X.hE.2 _ (List.mem_of_getElem? (i := 19) rfl)) (X.wd 7 rfl) hn_X0_draw ⟨Nat.le_of_ble_eq_true rfl, Nat.le_of_ble_eq_true rfl⟩, (X.wd 6 rfl), (X.wd 8 rfl)⟩) 12 0 cg_12 rfl rfl rfl rfl (Nat.le_of_ble_eq_true rfl) dX4_count_95 (fun u6 hp => ?_)
    refine ww_aload_n X dX4_count_98 0 rfl ?_
    refine ww_get X in_X4_count_X4 0 cg_0 rfl 3 (by decide) (X.wd 4 rfl) (v := .ref (ad 12)) rfl dX4_count_99 ?_
    refine ww_getN X in_X4_count_X0 12 cg_12 rfl 5 (by decide) (X.nest 2 rfl) (v := .int (u6.1 12)) rfl dX4_count_102 ?_
    exact ww_iret X hp dX4_count_105
  have hp := hp.2 h5
  rcases Classical.em (a1 = 5) with h8 | h8
  · have hp := hp.1 h8
    refine ww_tin X (5) (off := 105) (tgt := 106) dX4_count_1 h8 (by decide) (by decide) (by decide) (by decide) ?_
    refine ww_aload_n X dX4_count_106 0 rfl ?_
    refine ww_get X in_X4_count_X4 0 cg_0 rfl 3 (by decide) (X.wd 4 rfl) (v := .ref (ad 12)) rfl dX4_count_107 ?_
    refine ww_aload_n X dX4_count_110 0 rfl ?_
    refine ww_get X in_X4_count_X4 0 cg_0 rfl 2 (by decide) (X.wd 2 rfl) (v := .ref (ad 2)) rfl dX4_count_111 ?_
    refine ww_aload_n X dX4_count_114 0 rfl ?_
    refine ww_get X in_X4_count_X4 0 cg_0 rfl 2 (by decide) (X.wd 2 rfl) (v := .ref (ad 2)) rfl dX4_count_115 ?_
    refine ww_getN X in_X4_count_X3 2 cg_2 rfl 1 (by decide) (X.nest 11 rfl) (v := .ref (ad 6)) rfl dX4_count_118 ?_
    refine ww_getN X in_X4_count_X1 6 cg_6 rfl 3 (by decide) (X.nest 0 rfl) (v := .int (z.1 11)) rfl dX4_count_121 ?_
    refine ww_aload_n X dX4_count_124 0 rfl ?_
    refine ww_get X in_X4_count_X4 0 cg_0 rfl 7 (by decide) (X.wd 1 rfl) (v := .int (z.1 1)) rfl dX4_count_125 ?_
    refine ww_callN_v X (As := [.ref (ad 2), .int (z.1 11), .int (z.1 1)]) (rest := []) (kX0_draw l D ad cB cI cZ (z.1 11) (z.1 1) z _ hp) (⟨va_cnB 3 X.hts gX4_count_X0_draw_n136 rfl rfl rfl (X.hE.2 _ (List.mem_of_getElem? (i := 19) rfl)) (X.wd 7 rfl) hn_X0_draw ⟨Nat.le_of_ble_eq_true rfl, Nat.le_of_ble_eq_true rfl⟩, (X.wd 6 rfl), (X.wd 8 rfl)⟩) 12 0 cg_12 rfl rfl rfl rfl (Nat.le_of_ble_eq_true rfl) dX4_count_128 (fun u9 hp => ?_)
    refine ww_aload_n X dX4_count_131 0 rfl ?_
    refine ww_get X in_X4_count_X4 0 cg_0 rfl 3 (by decide) (X.wd 4 rfl) (v := .ref (ad 12)) rfl dX4_count_132 ?_
    refine ww_getN X in_X4_count_X0 12 cg_12 rfl 6 (by decide) (X.nest 3 rfl) (v := .int (u9.1 13)) rfl dX4_count_135 ?_
    exact ww_iret X hp dX4_count_138
  have hp := hp.2 h8
  rcases Classical.em (a1 = 6) with h11 | h11
  · have hp := hp.1 h11
    refine ww_tin X (6) (off := 138) (tgt := 139) dX4_count_1 h11 (by decide) (by decide) (by decide) (by decide) ?_
    refine ww_aload_n X dX4_count_139 0 rfl ?_
    refine ww_get X in_X4_count_X4 0 cg_0 rfl 1 (by decide) (X.wd 5 rfl) (v := .int (z.1 0)) rfl dX4_count_140 ?_
    exact ww_iret X hp dX4_count_143
  have hp := hp.2 h11
  have e12 : a1.toInt ≠ 0 := fun q => h1 (Int32.toInt_inj.mp (q.trans (by decide)))
  have e13 : a1.toInt ≠ 1 := fun q => h2 (Int32.toInt_inj.mp (q.trans (by decide)))
  have e14 : a1.toInt ≠ 2 := fun q => h3 (Int32.toInt_inj.mp (q.trans (by decide)))
  have e15 : a1.toInt ≠ 3 := fun q => h4 (Int32.toInt_inj.mp (q.trans (by decide)))
  have e16 : a1.toInt ≠ 4 := fun q => h5 (Int32.toInt_inj.mp (q.trans (by decide)))
  have e17 : a1.toInt ≠ 5 := fun q => h8 (Int32.toInt_inj.mp (q.trans (by decide)))
  have e18 : a1.toInt ≠ 6 := fun q => h11 (Int32.toInt_inj.mp (q.trans (by decide)))
  refine ww_tout X (tgt := 144) dX4_count_1 (by omega) (by decide) ?_
  refine ww_iload_n X dX4_count_144 1 rfl ?_
  refine ww_bipush X (v := 10) dX4_count_145 (by decide) ?_
  refine ww_icmp_lt X (tgt := 176) dX4_count_147 (by decide) (fun h19 => ?_) (fun h19 => ?_)
  · have hp := hp.1 h19
    exact ww_sub (lv' := [(0, .ref (ad 0))]) [0] rfl (wX4_count_b176 X   z hp)
  · have hp := hp.2 h19
    refine ww_aload_n X dX4_count_150 0 rfl ?_
    refine ww_iload_n X dX4_count_151 1 rfl ?_
    refine ww_bipush X (v := 10) dX4_count_152 (by decide) ?_
    refine ww_isub X dX4_count_154 ?_
    refine ww_callV_i X (As := [.int (a1 - 10)]) (rest := []) (kX4_isSensor l D ad cB cI cZ (a1 - 10) z _ hp) (cwV 1 X.hts gX4_count_X4_isSensor rfl rfl rfl hd_X4_isSensor ⟨Nat.le_of_ble_eq_true rfl, Nat.le_of_ble_eq_true rfl⟩) 0 4 cg_0 rfl rfl rfl rfl (Nat.le_of_ble_eq_true rfl) dX4_count_155 (fun r21 u20 hp => ?_)
    refine ww_if_eq X (tgt := 176) dX4_count_158 (by decide) (fun h22 => ?_) (fun h22 => ?_)
    · have hp := hp.1 h22
      exact ww_sub (lv' := [(0, .ref (ad 0))]) [0] rfl (wX4_count_b176 X   u20 hp)
    · have hp := hp.2 h22
      refine ww_aload_n X dX4_count_161 0 rfl ?_
      refine ww_get X in_X4_count_X4 0 cg_0 rfl 2 (by decide) (X.wd 2 rfl) (v := .ref (ad 2)) rfl dX4_count_162 ?_
      refine ww_getN X in_X4_count_X3 2 cg_2 rfl 2 (by decide) (X.nest 9 rfl) (v := .ref (ad 10)) rfl dX4_count_165 ?_
      refine ww_iload_n X dX4_count_168 1 rfl ?_
      refine ww_bipush X (v := 10) dX4_count_169 (by decide) ?_
      refine ww_isub X dX4_count_171 ?_
      obtain ⟨h23, hp⟩ := hp
      refine ww_iald X 10 1 cg_10 rfl (v := (gA u20 6 (a1 - 10))) h23 rfl dX4_count_172 ?_
      refine ww_goto X (tgt := 179) dX4_count_173 (by decide) ?_
      exact ww_sub (lv' := [(0, .ref (ad 0))]) [0] rfl (wX4_count_b179 X  (gA u20 6 (a1 - 10)) u20 hp)
