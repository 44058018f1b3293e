set_option maxHeartbeats 4000000 in
set_option maxRecDepth 100000 in
theorem kX5_asAtFirst (l : Launch) (D : va_G) (ad : Nat → Nat) (cB cI cZ : ClassId) (z : Sg) (post : Sg → Prop) (hp : pX5_asAtFirst  z post) : Cv l D (tyL cB cI cZ) (mW ad cB cI cZ) yX5_asAtFirst wsX5_asAtFirst rmX5_asAtFirst [.ref (ad 3)] z post := by
  refine Cv.of (cc := cX5_asAtFirst) (maxL := 1) (ret := none) (by decide) rfl (Nat.le_of_ble_eq_true rfl) ?_
  intro p e s m args below meth c A X
  have X : Cx p s m args meth c cX5_asAtFirst 1 none RX5 wsX5_asAtFirst D (tyL cB cI cZ) A := X
  show WW p l e rmX5_asAtFirst s m args below meth c 1 D A (mW ad cB cI cZ) (QV below args s D (tyL cB cI cZ) (mW ad cB cI cZ) A post) z 0 [(0, .ref (ad 3))] []
  unfold pX5_asAtFirst at hp
  refine ww_aload_n X dX5_asAtFirst_0 0 rfl ?_
  refine ww_iconst X (v := 0) dX5_asAtFirst_1 (by decide) ?_
  refine ww_sipush X (v := 240) dX5_asAtFirst_2 (by decide) ?_
  obtain ⟨h1, hp⟩ := hp
  refine ww_iast X 3 1 mg_3 rfl (sg' := (sA z 2 0 240)) h1 ma_3 dX5_asAtFirst_5 ?_
  refine ww_aload_n X dX5_asAtFirst_6 0 rfl ?_
  refine ww_iconst X (v := 1) dX5_asAtFirst_7 (by decide) ?_
  refine ww_bipush X (v := 18) dX5_asAtFirst_8 (by decide) ?_
  obtain ⟨h2, hp⟩ := hp
  refine ww_iast X 3 1 mg_3 rfl (sg' := (sA (sA z 2 0 240) 2 1 18)) h2 ma_3 dX5_asAtFirst_10 ?_
  refine ww_aload_n X dX5_asAtFirst_11 0 rfl ?_
  refine ww_iconst X (v := 2) dX5_asAtFirst_12 (by decide) ?_
  refine ww_bipush X (v := 100) dX5_asAtFirst_13 (by decide) ?_
  refine ww_zz (fun w4 hw4 => ?_)
  have hp := hp w4 hw4
  obtain ⟨h3, hp⟩ := hp
  refine ww_iast X 3 1 mg_3 rfl (sg' := (sA w4 2 2 100)) h3 ma_3 dX5_asAtFirst_15 ?_
  refine ww_aload_n X dX5_asAtFirst_16 0 rfl ?_
  refine ww_iconst X (v := 3) dX5_asAtFirst_17 (by decide) ?_
  refine ww_bipush X (v := 70) dX5_asAtFirst_18 (by decide) ?_
  obtain ⟨h5, hp⟩ := hp
  refine ww_iast X 3 1 mg_3 rfl (sg' := (sA (sA w4 2 2 100) 2 3 70)) h5 ma_3 dX5_asAtFirst_20 ?_
  refine ww_aload_n X dX5_asAtFirst_21 0 rfl ?_
  refine ww_iconst X (v := 4) dX5_asAtFirst_22 (by decide) ?_
  refine ww_bipush X (v := 95) dX5_asAtFirst_23 (by decide) ?_
  refine ww_zz (fun w7 hw7 => ?_)
  have hp := hp w7 hw7
  obtain ⟨h6, hp⟩ := hp
  refine ww_iast X 3 1 mg_3 rfl (sg' := (sA w7 2 4 95)) h6 ma_3 dX5_asAtFirst_25 ?_
  refine ww_aload_n X dX5_asAtFirst_26 0 rfl ?_
  refine ww_iconst X (v := 5) dX5_asAtFirst_27 (by decide) ?_
  refine ww_bipush X (v := 12) dX5_asAtFirst_28 (by decide) ?_
  obtain ⟨h8, hp⟩ := hp
  refine ww_iast X 3 1 mg_3 rfl (sg' := (sA (sA w7 2 4 95) 2 5 12)) h8 ma_3 dX5_asAtFirst_30 ?_
  refine ww_aload_n X dX5_asAtFirst_31 0 rfl ?_
  refine ww_bipush X (v := 6) dX5_asAtFirst_32 (by decide) ?_
  refine ww_iconst X (v := 1) dX5_asAtFirst_34 (by decide) ?_
  refine ww_zz (fun w10 hw10 => ?_)
  have hp := hp w10 hw10
  obtain ⟨h9, hp⟩ := hp
  refine ww_iast X 3 1 mg_3 rfl (sg' := (sA w10 2 6 1)) h9 ma_3 dX5_asAtFirst_35 ?_
  exact ww_vret X hp dX5_asAtFirst_36
set_option maxHeartbeats 4000000 in
set_option maxRecDepth 100000 in
theorem wX5_lies_b15 {p : Program} {l : Launch} {e : Env} {s : State} {m : MethodId} {args : Array Value} {below : List Frame} {meth : Method} {c : Code} {D : va_G} {A : Nat → Prop} {ad : Nat → Nat} {cB cI cZ : ClassId} {post : Int32 → Sg → Prop}  (X : Cx p s m args meth c cX5_lies 3 (some .boolean) RX5 wsX5_lies D (tyL cB cI cZ) A)  (y0 : Int32) (z : Sg) (hp : pX5_lies_b15  post y0 z) : WW p l e rmX5_lies s m args below meth c 3 D A (mW ad cB cI cZ) (QI below args s D (tyL cB cI cZ) (mW ad cB cI cZ) A post) z 15 [] [.int y0] := by
  unfold pX5_lies_b15 at hp
  exact ww_zret X hp.1 hp.2 dX5_lies_15
set_option maxHeartbeats 4000000 in
set_option maxRecDepth 100000 in
theorem wX5_lies_b14 {p : Program} {l : Launch} {e : Env} {s : State} {m : MethodId} {args : Array Value} {below : List Frame} {meth : Method} {c : Code} {D : va_G} {A : Nat → Prop} {ad : Nat → Nat} {cB cI cZ : ClassId} {post : Int32 → Sg → Prop}  (X : Cx p s m args meth c cX5_lies 3 (some .boolean) RX5 wsX5_lies D (tyL cB cI cZ) A)  (z : Sg) (hp : pX5_lies_b14  post  z) : WW p l e rmX5_lies s m args below meth c 3 D A (mW ad cB cI cZ) (QI below args s D (tyL cB cI cZ) (mW ad cB cI cZ) A post) z 14 [] [] := by
  unfold pX5_lies_b14 at hp
  refine ww_iconst X (v := 0) dX5_lies_14 (by decide) ?_
  exact wX5_lies_b15 X  0 z hp
set_option maxHeartbeats 4000000 in
set_option maxRecDepth 100000 in
theorem kX5_lies (l : Launch) (D : va_G) (ad : Nat → Nat) (cB cI cZ : ClassId) (a0 a1 a2 : Int32) (z : Sg) (post : Int32 → Sg → Prop) (hp : pX5_lies a0 a1 a2 z post) : Ci l D (tyL cB cI cZ) (mW ad cB cI cZ) yX5_lies wsX5_lies rmX5_lies [.int a0, .int a1, .int a2] z post := by
  refine Ci.of (cc := cX5_lies) (maxL := 3) (ret := (some .boolean)) (by decide) rfl (Nat.le_of_ble_eq_true rfl) ?_
  intro p e s m args below meth c A X
  have X : Cx p s m args meth c cX5_lies 3 (some .boolean) RX5 wsX5_lies D (tyL cB cI cZ) A := X
  show WW p l e rmX5_lies s m args below meth c 3 D A (mW ad cB cI cZ) (QI below args s D (tyL cB cI cZ) (mW ad cB cI cZ) A post) z 0 [(0, .int a0), (1, .int a1), (2, .int a2)] []
  unfold pX5_lies at hp
  refine ww_iload_n X dX5_lies_0 0 rfl ?_
  refine ww_iload_n X dX5_lies_1 1 rfl ?_
  refine ww_icmp_lt X (tgt := 14) dX5_lies_2 (by decide) (fun h1 => ?_) (fun h1 => ?_)
  · have hp := hp.1 h1
    exact ww_sub (lv' := []) [] rfl (wX5_lies_b14 X   z hp)
  · have hp := hp.2 h1
    refine ww_iload_n X dX5_lies_5 0 rfl ?_
    refine ww_iload_n X dX5_lies_6 2 rfl ?_
    refine ww_icmp_gt X (tgt := 14) dX5_lies_7 (by decide) (fun h2 => ?_) (fun h2 => ?_)
    · have hp := hp.1 h2
      exact ww_sub (lv' := []) [] rfl (wX5_lies_b14 X   z hp)
    · have hp := hp.2 h2
      refine ww_iconst X (v := 1) dX5_lies_10 (by decide) ?_
      refine ww_goto X (tgt := 15) dX5_lies_11 (by decide) ?_
      exact ww_sub (lv' := []) [] rfl (wX5_lies_b15 X  1 z hp)
set_option maxHeartbeats 4000000 in
set_option maxRecDepth 100000 in
theorem wX5_push_b3 {p : Program} {l : Launch} {e : Env} {s : State} {m : MethodId} {args : Array Value} {below : List Frame} {meth : Method} {c : Code} {D : va_G} {A : Nat → Prop} {ad : Nat → Nat} {cB cI cZ : ClassId} {post : Sg → Prop} {K3 : Int32 → Int32 → Sg → Prop} (X : Cx p s m args meth c cX5_push 3 none RX5 wsX5_push D (tyL cB cI cZ) A) (hK3 : ∀ (x1 x2 : Int32) (z : Sg), K3 x1 x2 z → WW p l e rmX5_push s m args below meth c 3 D A (mW ad cB cI cZ) (QV below args s D (tyL cB cI cZ) (mW ad cB cI cZ) A post) z 3 [(0, .ref (ad 0)), (1, .int x1), (2, .int x2)] []) (x1 x2 : Int32) (z : Sg) (hp : pX5_push_b3 K3 post x1 x2 z) : WW p l e rmX5_push s m args below meth c 3 D A (mW ad cB cI cZ) (QV below args s D (tyL cB cI cZ) (mW ad cB cI cZ) A post) z 3 [(0, .ref (ad 0)), (1, .int x1), (2, .int x2)] [] := by
  unfold pX5_push_b3 at hp
  refine ww_iload_n X dX5_push_3 2 rfl ?_
  refine ww_if_lt X (tgt := 36) dX5_push_4 (by decide) (fun h1 => ?_) (fun h1 => ?_)
  · have hp := hp.1 h1
    exact ww_vret X hp dX5_push_36
  · have hp := hp.2 h1
    refine ww_aload_n X dX5_push_7 0 rfl ?_
    refine ww_get X in_X5_push_X5 0 mg_0 rfl 0 (by decide) (X.wd 1 rfl) (v := .ref (ad 1)) rfl dX5_push_8 ?_
    refine ww_aload_n X dX5_push_11 0 rfl ?_
    refine ww_get X in_X5_push_X5 0 mg_0 rfl 1 (by decide) (X.wd 2 rfl) (v := .int (z.1 0)) rfl dX5_push_12 ?_
    refine ww_iload_n X dX5_push_15 1 rfl ?_
    refine ww_iload_n X dX5_push_16 2 rfl ?_
    refine ww_ishr X dX5_push_17 ?_
    refine ww_i2b X dX5_push_18 ?_
    refine ww_top (fun v3 hv3 => ?_)
    have hp := hp v3 hv3
    obtain ⟨h2, hp⟩ := hp
    refine ww_bast X 1 0 mg_1 rfl (sg' := (sA z 0 (z.1 0) (vp_nar .byte v3))) h2 ma_1 dX5_push_19 ?_
    refine ww_aload_n X dX5_push_20 0 rfl ?_
    refine ww_dup X dX5_push_21 rfl ?_
    refine ww_get X in_X5_push_X5 0 mg_0 rfl 1 (by decide) (X.wd 2 rfl) (v := .int (z.1 0)) rfl dX5_push_22 ?_
    refine ww_iconst X (v := 1) dX5_push_25 (by decide) ?_
    refine ww_iadd X dX5_push_26 ?_
    refine ww_put X in_X5_push_X5 tyX5 tyX5_ok nmX5 0 mg_0 rfl 1 (by decide) (X.wd 2 rfl) rfl pd_X5_1 (Nat.le_of_ble_eq_true rfl) (sg' := (sS (sA z 0 (z.1 0) (vp_nar .byte v3)) 0 ((z.1 0) + 1))) ms_0 dX5_push_27 ?_
    refine ww_iinc X (v := (x2 + (-8))) (lv' := [(2, .int (x2 + (-8))), (0, .ref (ad 0)), (1, .int x1)]) dX5_push_30 2 rfl rfl (by decide) rfl ?_
    refine ww_goto X (tgt := 3) dX5_push_33 (by decide) ?_
    exact ww_sub (lv' := [(0, .ref (ad 0)), (1, .int x1), (2, .int (x2 + (-8)))]) [1, 2, 0] rfl (hK3 x1 (x2 + (-8)) (sS (sA z 0 (z.1 0) (vp_nar .byte v3)) 0 ((z.1 0) + 1)) hp)
set_option maxHeartbeats 4000000 in
set_option maxRecDepth 100000 in
theorem wX5_push_l3 {p : Program} {l : Launch} {e : Env} {s : State} {m : MethodId} {args : Array Value} {below : List Frame} {meth : Method} {c : Code} {D : va_G} {A : Nat → Prop} {ad : Nat → Nat} {cB cI cZ : ClassId} {post : Sg → Prop}  (X : Cx p s m args meth c cX5_push 3 none RX5 wsX5_push D (tyL cB cI cZ) A)  (x1 x2 : Int32) (z : Sg) (hp : pX5_push_l3  post x1 x2 z) : WW p l e rmX5_push s m args below meth c 3 D A (mW ad cB cI cZ) (QV below args s D (tyL cB cI cZ) (mW ad cB cI cZ) A post) z 3 [(0, .ref (ad 0)), (1, .int x1), (2, .int x2)] [] := by
  have key := lp_walk (F := (fun (K : Int32 × Int32 → Sg → Prop) (a : Int32 × Int32) (z : Sg) => pX5_push_b3 (fun (x1 x2 : Int32) z => K (x1, x2) z) post a.1 a.2 z)) (P := fun a z => WW p l e rmX5_push s m args below meth c 3 D A (mW ad cB cI cZ) (QV below args s D (tyL cB cI cZ) (mW ad cB cI cZ) A post) z 3 [(0, .ref (ad 0)), (1, .int a.1), (2, .int a.2)] []) (fun K hK a z hp => wX5_push_b3 X (fun x1 x2 z h => hK (x1, x2) z h) a.1 a.2 z hp)
  exact key (x1, x2) z hp
set_option maxHeartbeats 4000000 in
set_option maxRecDepth 100000 in
theorem kX5_push (l : Launch) (D : va_G) (ad : Nat → Nat) (cB cI cZ : ClassId) (a1 : Int32) (z : Sg) (post : Sg → Prop) (hp : pX5_push a1 z post) : Cv l D (tyL cB cI cZ) (mW ad cB cI cZ) yX5_push wsX5_push rmX5_push [.ref (ad 0), .int a1] z post := by
  refine Cv.of (cc := cX5_push) (maxL := 3) (ret := none) (by decide) rfl (Nat.le_of_ble_eq_true rfl) ?_
  intro p e s m args below meth c A X
  have X : Cx p s m args meth c cX5_push 3 none RX5 wsX5_push D (tyL cB cI cZ) A := X
  show WW p l e rmX5_push s m args below meth c 3 D A (mW ad cB cI cZ) (QV below args s D (tyL cB cI cZ) (mW ad cB cI cZ) A post) z 0 [(0, .ref (ad 0)), (1, .int a1)] []
  unfold pX5_push at hp
  refine ww_bipush X (v := 24) dX5_push_0 (by decide) ?_
  refine ww_istore_n X (lv' := [(2, .int 24), (0, .ref (ad 0)), (1, .int a1)]) dX5_push_2 (by decide) rfl ?_
  exact ww_sub (lv' := [(0, .ref (ad 0)), (1, .int a1), (2, .int 24)]) [1, 2, 0] rfl (wX5_push_l3 X  a1 24 z hp)
set_option maxHeartbeats 4000000 in
set_option maxRecDepth 100000 in
theorem kX5_feed (l : Launch) (D : va_G) (ad : Nat → Nat) (cB cI cZ : ClassId) (a1 a2 a3 a4 a5 : Int32) (z : Sg) (post : Int32 → Sg → Prop) (hp : pX5_feed a1 a2 a3 a4 a5 z post) : Ci l D (tyL cB cI cZ) (mW ad cB cI cZ) yX5_feed wsX5_feed rmX5_feed [.ref (ad 0), .int a1, .int a2, .int a3, .int a4, .int a5] z post := by
  refine Ci.of (cc := cX5_feed) (maxL := 6) (ret := (some .int)) (by decide) rfl (Nat.le_of_ble_eq_true rfl) ?_
  intro p e s m args below meth c A X
  have X : Cx p s m args meth c cX5_feed 6 (some .int) RX5 wsX5_feed D (tyL cB cI cZ) A := X
  show WW p l e rmX5_feed s m args below meth c 6 D A (mW ad cB cI cZ) (QI below args s D (tyL cB cI cZ) (mW ad cB cI cZ) A post) z 0 [(0, .ref (ad 0)), (1, .int a1), (2, .int a2), (3, .int a3), (4, .int a4), (5, .int a5)] []
  unfold pX5_feed at hp
  refine ww_aload_n X dX5_feed_0 0 rfl ?_
  refine ww_get X in_X5_feed_X5 0 mg_0 rfl 1 (by decide) (X.wd 1 rfl) (v := .int (z.1 0)) rfl dX5_feed_1 ?_
  refine ww_bipush X (v := 20) dX5_feed_4 (by decide) ?_
  refine ww_iadd X dX5_feed_6 ?_
  refine ww_bipush X (v := 60) dX5_feed_7 (by decide) ?_
  refine ww_icmp_le X (tgt := 16) dX5_feed_9 (by decide) (fun h1 => ?_) (fun h1 => ?_)
  · have hp := hp.1 h1
    refine ww_aload_n X dX5_feed_16 0 rfl ?_
    refine ww_iload_n X dX5_feed_17 1 rfl ?_
    refine ww_callV_v X (As := [.int a1]) (rest := []) (kX5_push l D ad cB cI cZ a1 z _ hp) (cwV 1 X.hts gX5_feed_X5_push rfl rfl rfl hd_X5_push ⟨Nat.le_of_ble_eq_true rfl, Nat.le_of_ble_eq_true rfl⟩) 0 5 mg_0 rfl rfl rfl rfl (Nat.le_of_ble_eq_true rfl) dX5_feed_18 (fun u2 hp => ?_)
    refine ww_aload_n X dX5_feed_21 0 rfl ?_
    refine ww_iload_n X dX5_feed_22 2 rfl ?_
    refine ww_callV_v X (As := [.int a2]) (rest := []) (kX5_push l D ad cB cI cZ a2 u2 _ hp) (cwV 1 X.hts gX5_feed_X5_push rfl rfl rfl hd_X5_push ⟨Nat.le_of_ble_eq_true rfl, Nat.le_of_ble_eq_true rfl⟩) 0 5 mg_0 rfl rfl rfl rfl (Nat.le_of_ble_eq_true rfl) dX5_feed_23 (fun u4 hp => ?_)
    refine ww_aload_n X dX5_feed_26 0 rfl ?_
    refine ww_iload_n X dX5_feed_27 3 rfl ?_
    refine ww_callV_v X (As := [.int a3]) (rest := []) (kX5_push l D ad cB cI cZ a3 u4 _ hp) (cwV 1 X.hts gX5_feed_X5_push rfl rfl rfl hd_X5_push ⟨Nat.le_of_ble_eq_true rfl, Nat.le_of_ble_eq_true rfl⟩) 0 5 mg_0 rfl rfl rfl rfl (Nat.le_of_ble_eq_true rfl) dX5_feed_28 (fun u6 hp => ?_)
    refine ww_aload_n X dX5_feed_31 0 rfl ?_
    refine ww_iload X dX5_feed_32 4 rfl ?_
    refine ww_callV_v X (As := [.int a4]) (rest := []) (kX5_push l D ad cB cI cZ a4 u6 _ hp) (cwV 1 X.hts gX5_feed_X5_push rfl rfl rfl hd_X5_push ⟨Nat.le_of_ble_eq_true rfl, Nat.le_of_ble_eq_true rfl⟩) 0 5 mg_0 rfl rfl rfl rfl (Nat.le_of_ble_eq_true rfl) dX5_feed_34 (fun u8 hp => ?_)
    refine ww_aload_n X dX5_feed_37 0 rfl ?_
    refine ww_iload X dX5_feed_38 5 rfl ?_
    refine ww_callV_v X (As := [.int a5]) (rest := []) (kX5_push l D ad cB cI cZ a5 u8 _ hp) (cwV 1 X.hts gX5_feed_X5_push rfl rfl rfl hd_X5_push ⟨Nat.le_of_ble_eq_true rfl, Nat.le_of_ble_eq_true rfl⟩) 0 5 mg_0 rfl rfl rfl rfl (Nat.le_of_ble_eq_true rfl) dX5_feed_40 (fun u10 hp => ?_)
    refine ww_aload_n X dX5_feed_43 0 rfl ?_
    refine ww_get X in_X5_feed_X5 0 mg_0 rfl 1 (by decide) (X.wd 1 rfl) (v := .int (u10.1 0)) rfl dX5_feed_44 ?_
    exact ww_iret X hp dX5_feed_47
  · have hp := hp.2 h1
    refine ww_sipush X (v := (-10000)) dX5_feed_12 (by decide) ?_
    exact ww_iret X hp dX5_feed_15
set_option maxHeartbeats 4000000 in
set_option maxRecDepth 100000 in
theorem kX5_letter (l : Launch) (D : va_G) (ad : Nat → Nat) (cB cI cZ : ClassId) (a0 : Int32) (z : Sg) (post : Int32 → Sg → Prop) (hp : pX5_letter a0 z post) : Ci l D (tyL cB cI cZ) (mW ad cB cI cZ) yX5_letter wsX5_letter rmX5_letter [.int a0] z post := by
  refine Ci.of (cc := cX5_letter) (maxL := 1) (ret := (some .int)) (by decide) rfl (Nat.le_of_ble_eq_true rfl) ?_
  intro p e s m args below meth c A X
  have X : Cx p s m args meth c cX5_letter 1 (some .int) RX5 wsX5_letter D (tyL cB cI cZ) A := X
  show WW p l e rmX5_letter s m args below meth c 1 D A (mW ad cB cI cZ) (QI below args s D (tyL cB cI cZ) (mW ad cB cI cZ) A post) z 0 [(0, .int a0)] []
  unfold pX5_letter at hp
  refine ww_iload_n X dX5_letter_0 0 rfl ?_
  rcases Classical.em (a0 = 99) with h1 | h1
  · have hp := hp.1 h1
    refine ww_tin X (99) (off := 109) (tgt := 110) dX5_letter_1 h1 (by decide) (by decide) (by decide) (by decide) ?_
    refine ww_iconst X (v := 5) dX5_letter_110 (by decide) ?_
    exact ww_iret X hp dX5_letter_111
  have hp := hp.2 h1
  rcases Classical.em (a0 = 100) with h2 | h2
  · have hp := hp.1 h2
    refine ww_tin X (100) (off := 114) (tgt := 115) dX5_letter_1 h2 (by decide) (by decide) (by decide) (by decide) ?_
    refine ww_sipush X (v := (-10000)) dX5_letter_115 (by decide) ?_
    exact ww_iret X hp dX5_letter_118
  have hp := hp.2 h2
  rcases Classical.em (a0 = 101) with h3 | h3
  · have hp := hp.1 h3
    refine ww_tin X (101) (off := 114) (tgt := 115) dX5_letter_1 h3 (by decide) (by decide) (by decide) (by decide) ?_
    refine ww_sipush X (v := (-10000)) dX5_letter_115 (by decide) ?_
    exact ww_iret X hp dX5_letter_118
  have hp := hp.2 h3
  rcases Classical.em (a0 = 102) with h4 | h4
  · have hp := hp.1 h4
    refine ww_tin X (102) (off := 114) (tgt := 115) dX5_letter_1 h4 (by decide) (by decide) (by decide) (by decide) ?_
    refine ww_sipush X (v := (-10000)) dX5_letter_115 (by decide) ?_
    exact ww_iret X hp dX5_letter_118
  have hp := hp.2 h4
  rcases Classical.em (a0 = 103) with h5 | h5
  · have hp := hp.1 h5
    refine ww_tin X (103) (off := 105) (tgt := 106) dX5_letter_1 h5 (by decide) (by decide) (by decide) (by decide) ?_
    refine ww_iconst X (v := 3) dX5_letter_106 (by decide) ?_
    exact ww_iret X hp dX5_letter_107
  have hp := hp.2 h5
  rcases Classical.em (a0 = 104) with h6 | h6
  · have hp := hp.1 h6
    refine ww_tin X (104) (off := 107) (tgt := 108) dX5_letter_1 h6 (by decide) (by decide) (by decide) (by decide) ?_
    refine ww_iconst X (v := 4) dX5_letter_108 (by decide) ?_
    exact ww_iret X hp dX5_letter_109
  have hp := hp.2 h6
  rcases Classical.em (a0 = 105) with h7 | h7
  · have hp := hp.1 h7
    refine ww_tin X (105) (off := 114) (tgt := 115) dX5_letter_1 h7 (by decide) (by decide) (by decide) (by decide) ?_
    refine ww_sipush X (v := (-10000)) dX5_letter_115 (by decide) ?_
    exact ww_iret X hp dX5_letter_118
  have hp := hp.2 h7
  rcases Classical.em (a0 = 106) with h8 | h8
  · have hp := hp.1 h8
    refine ww_tin X (106) (off := 114) (tgt := 115) dX5_letter_1 h8 (by decide) (by decide) (by decide) (by decide) ?_
    refine ww_sipush X (v := (-10000)) dX5_letter_115 (by decide) ?_
    exact ww_iret X hp dX5_letter_118
  have hp := hp.2 h8
  rcases Classical.em (a0 = 107) with h9 | h9
  · have hp := hp.1 h9
    refine ww_tin X (107) (off := 99) (tgt := 100) dX5_letter_1 h9 (by decide) (by decide) (by decide) (by decide) ?_
    refine ww_iconst X (v := 0) dX5_letter_100 (by decide) ?_
    exact ww_iret X hp dX5_letter_101
  have hp := hp.2 h9
  rcases Classical.em (a0 = 108) with h10 | h10
  · have hp := hp.1 h10
    refine ww_tin X (108) (off := 114) (tgt := 115) dX5_letter_1 h10 (by decide) (by decide) (by decide) (by decide) ?_
    refine ww_sipush X (v := (-10000)) dX5_letter_115 (by decide) ?_
    exact ww_iret X hp dX5_letter_118
  have hp := hp.2 h10
  rcases Classical.em (a0 = 109) with h11 | h11
  · have hp := hp.1 h11
    refine ww_tin X (109) (off := 101) (tgt := 102) dX5_letter_1 h11 (by decide) (by decide) (by decide) (by decide) ?_
    refine ww_iconst X (v := 1) dX5_letter_102 (by decide) ?_
    exact ww_iret X hp dX5_letter_103
  have hp := hp.2 h11
  rcases Classical.em (a0 = 110) with h12 | h12
  · have hp := hp.1 h12
    refine ww_tin X (110) (off := 114) (tgt := 115) dX5_letter_1 h12 (by decide) (by decide) (by decide) (by decide) ?_
    refine ww_sipush X (v := (-10000)) dX5_letter_115 (by decide) ?_
    exact ww_iret X hp dX5_letter_118
  have hp := hp.2 h12
  rcases Classical.em (a0 = 111) with h13 | h13
  · have hp := hp.1 h13
    refine ww_tin X (111) (off := 114) (tgt := 115) dX5_letter_1 h13 (by decide) (by decide) (by decide) (by decide) ?_
    refine ww_sipush X (v := (-10000)) dX5_letter_115 (by decide) ?_
    exact ww_iret X hp dX5_letter_118
  have hp := hp.2 h13
  rcases Classical.em (a0 = 112) with h14 | h14
  · have hp := hp.1 h14
    refine ww_tin X (112) (off := 114) (tgt := 115) dX5_letter_1 h14 (by decide) (by decide) (by decide) (by decide) ?_
    refine ww_sipush X (v := (-10000)) dX5_letter_115 (by decide) ?_
    exact ww_iret X hp dX5_letter_118
  have hp := hp.2 h14
  rcases Classical.em (a0 = 113) with h15 | h15
  · have hp := hp.1 h15
    refine ww_tin X (113) (off := 114) (tgt := 115) dX5_letter_1 h15 (by decide) (by decide) (by decide) (by decide) ?_
    refine ww_sipush X (v := (-10000)) dX5_letter_115 (by decide) ?_
    exact ww_iret X hp dX5_letter_118
  have hp := hp.2 h15
  rcases Classical.em (a0 = 114) with h16 | h16
  · have hp := hp.1 h16
    refine ww_tin X (114) (off := 114) (tgt := 115) dX5_letter_1 h16 (by decide) (by decide) (by decide) (by decide) ?_
    refine ww_sipush X (v := (-10000)) dX5_letter_115 (by decide) ?_
    exact ww_iret X hp dX5_letter_118
  have hp := hp.2 h16
  rcases Classical.em (a0 = 115) with h17 | h17
  · have hp := hp.1 h17
    refine ww_tin X (115) (off := 114) (tgt := 115) dX5_letter_1 h17 (by decide) (by decide) (by decide) (by decide) ?_
    refine ww_sipush X (v := (-10000)) dX5_letter_115 (by decide) ?_
    exact ww_iret X hp dX5_letter_118
  have hp := hp.2 h17
  rcases Classical.em (a0 = 116) with h18 | h18
  · have hp := hp.1 h18
    refine ww_tin X (116) (off := 111) (tgt := 112) dX5_letter_1 h18 (by decide) (by decide) (by decide) (by decide) ?_
    refine ww_bipush X (v := 6) dX5_letter_112 (by decide) ?_
    exact ww_iret X hp dX5_letter_114
  have hp := hp.2 h18
  rcases Classical.em (a0 = 117) with h19 | h19
  · have hp := hp.1 h19
    refine ww_tin X (117) (off := 114) (tgt := 115) dX5_letter_1 h19 (by decide) (by decide) (by decide) (by decide) ?_
    refine ww_sipush X (v := (-10000)) dX5_letter_115 (by decide) ?_
    exact ww_iret X hp dX5_letter_118
  have hp := hp.2 h19
  rcases Classical.em (a0 = 118) with h20 | h20
  · have hp := hp.1 h20
    refine ww_tin X (118) (off := 114) (tgt := 115) dX5_letter_1 h20 (by decide) (by decide) (by decide) (by decide) ?_
    refine ww_sipush X (v := (-10000)) dX5_letter_115 (by decide) ?_
    exact ww_iret X hp dX5_letter_118
  have hp := hp.2 h20
  rcases Classical.em (a0 = 119) with h21 | h21
  · have hp := hp.1 h21
    refine ww_tin X (119) (off := 103) (tgt := 104) dX5_letter_1 h21 (by decide) (by decide) (by decide) (by decide) ?_
    refine ww_iconst X (v := 2) dX5_letter_104 (by decide) ?_
    exact ww_iret X hp dX5_letter_105
  have hp := hp.2 h21
  have e22 : a0.toInt ≠ 99 := fun q => h1 (Int32.toInt_inj.mp (q.trans (by decide)))
  have e23 : a0.toInt ≠ 100 := fun q => h2 (Int32.toInt_inj.mp (q.trans (by decide)))
  have e24 : a0.toInt ≠ 101 := fun q => h3 (Int32.toInt_inj.mp (q.trans (by decide)))
  have e25 : a0.toInt ≠ 102 := fun q => h4 (Int32.toInt_inj.mp (q.trans (by decide)))
  have e26 : a0.toInt ≠ 103 := fun q => h5 (Int32.toInt_inj.mp (q.trans (by decide)))
  have e27 : a0.toInt ≠ 104 := fun q => h6 (Int32.toInt_inj.mp (q.trans (by decide)))
  have e28 : a0.toInt ≠ 105 := fun q => h7 (Int32.toInt_inj.mp (q.trans (by decide)))
  have e29 : a0.toInt ≠ 106 := fun q => h8 (Int32.toInt_inj.mp (q.trans (by decide)))
  have e30 : a0.toInt ≠ 107 := fun q => h9 (Int32.toInt_inj.mp (q.trans (by decide)))
  have e31 : a0.toInt ≠ 108 := fun q => h10 (Int32.toInt_inj.mp (q.trans (by decide)))
  have e32 : a0.toInt ≠ 109 := fun q => h11 (Int32.toInt_inj.mp (q.trans (by decide)))
  have e33 : a0.toInt ≠ 110 := fun q => h12 (Int32.toInt_inj.mp (q.trans (by decide)))
  have e34 : a0.toInt ≠ 111 := fun q => h13 (Int32.toInt_inj.mp (q.trans (by decide)))
  have e35 : a0.toInt ≠ 112 := fun q => h14 (Int32.toInt_inj.mp (q.trans (by decide)))
  have e36 : a0.toInt ≠ 113 := fun q => h15 (Int32.toInt_inj.mp (q.trans (by decide)))
  have e37 : a0.toInt ≠ 114 := fun q => h16 (Int32.toInt_inj.mp (q.trans (by decide)))
  have e38 : a0.toInt ≠ 115 := fun q => h17 (Int32.toInt_inj.mp (q.trans (by decide)))
  have e39 : a0.toInt ≠ 116 := fun q => h18 (Int32.toInt_inj.mp (q.trans (by decide)))
  have e40 : a0.toInt ≠ 117 := fun q => h19 (Int32.toInt_inj.mp (q.trans (by decide)))
  have e41 : a0.toInt ≠ 118 := fun q => h20 (Int32.toInt_inj.mp (q.trans (by decide)))
  have e42 : a0.toInt ≠ 119 := fun q => h21 (Int32.toInt_inj.mp (q.trans (by decide)))
  refine ww_tout X (tgt := 115) dX5_letter_1 (by omega) (by decide) ?_
  refine ww_sipush X (v := (-10000)) dX5_letter_115 (by decide) ?_
  exact ww_iret X hp dX5_letter_118
set_option maxHeartbeats 4000000 in
set_option maxRecDepth 100000 in
theorem wX5_canBe_b106 {p : Program} {l : Launch} {e : Env} {s : State} {m : MethodId} {args : Array Value} {below : List Frame} {meth : Method} {c : Code} {D : va_G} {A : Nat → Prop} {ad : Nat → Nat} {cB cI cZ : ClassId} {post : Int32 → Sg → Prop}  (X : Cx p s m args meth c cX5_canBe 2 (some .boolean) RX5 wsX5_canBe D (tyL cB cI cZ) A)  (y0 : Int32) (z : Sg) (hp : pX5_canBe_b106  post y0 z) : WW p l e rmX5_canBe s m args below meth c 2 D A (mW ad cB cI cZ) (QI below args s D (tyL cB cI cZ) (mW ad cB cI cZ) A post) z 106 [] [.int y0] := by
  unfold pX5_canBe_b106 at hp
  exact ww_zret X hp.1 hp.2 dX5_canBe_106
set_option maxHeartbeats 4000000 in
set_option maxRecDepth 100000 in
theorem wX5_canBe_b87 {p : Program} {l : Launch} {e : Env} {s : State} {m : MethodId} {args : Array Value} {below : List Frame} {meth : Method} {c : Code} {D : va_G} {A : Nat → Prop} {ad : Nat → Nat} {cB cI cZ : ClassId} {post : Int32 → Sg → Prop}  (X : Cx p s m args meth c cX5_canBe 2 (some .boolean) RX5 wsX5_canBe D (tyL cB cI cZ) A)  (y0 : Int32) (z : Sg) (hp : pX5_canBe_b87  post y0 z) : WW p l e rmX5_canBe s m args below meth c 2 D A (mW ad cB cI cZ) (QI below args s D (tyL cB cI cZ) (mW ad cB cI cZ) A post) z 87 [] [.int y0] := by
  unfold pX5_canBe_b87 at hp
  exact ww_zret X hp.1 hp.2 dX5_canBe_87
set_option maxHeartbeats 4000000 in
set_option maxRecDepth 100000 in
theorem wX5_canBe_b74 {p : Program} {l : Launch} {e : Env} {s : State} {m : MethodId} {args : Array Value} {below : List Frame} {meth : Method} {c : Code} {D : va_G} {A : Nat → Prop} {ad : Nat → Nat} {cB cI cZ : ClassId} {post : Int32 → Sg → Prop}  (X : Cx p s m args meth c cX5_canBe 2 (some .boolean) RX5 wsX5_canBe D (tyL cB cI cZ) A)  (y0 : Int32) (z : Sg) (hp : pX5_canBe_b74  post y0 z) : WW p l e rmX5_canBe s m args below meth c 2 D A (mW ad cB cI cZ) (QI below args s D (tyL cB cI cZ) (mW ad cB cI cZ) A post) z 74 [] [.int y0] := by
  unfold pX5_canBe_b74 at hp
  exact ww_zret X hp.1 hp.2 dX5_canBe_74
set_option maxHeartbeats 4000000 in
set_option maxRecDepth 100000 in
theorem wX5_canBe_b61 {p : Program} {l : Launch} {e : Env} {s : State} {m : MethodId} {args : Array Value} {below : List Frame} {meth : Method} {c : Code} {D : va_G} {A : Nat → Prop} {ad : Nat → Nat} {cB cI cZ : ClassId} {post : Int32 → Sg → Prop}  (X : Cx p s m args meth c cX5_canBe 2 (some .boolean) RX5 wsX5_canBe D (tyL cB cI cZ) A)  (y0 : Int32) (z : Sg) (hp : pX5_canBe_b61  post y0 z) : WW p l e rmX5_canBe s m args below meth c 2 D A (mW ad cB cI cZ) (QI below args s D (tyL cB cI cZ) (mW ad cB cI cZ) A post) z 61 [] [.int y0] := by
  unfold pX5_canBe_b61 at hp
  exact ww_zret X hp.1 hp.2 dX5_canBe_61
set_option maxHeartbeats 4000000 in
set_option maxRecDepth 100000 in
theorem kX5_canBe (l : Launch) (D : va_G) (ad : Nat → Nat) (cB cI cZ : ClassId) (a0 a1 : Int32) (z : Sg) (post : Int32 → Sg → Prop) (hp : pX5_canBe a0 a1 z post) : Ci l D (tyL cB cI cZ) (mW ad cB cI cZ) yX5_canBe wsX5_canBe rmX5_canBe [.int a0, .int a1] z post := by
  refine Ci.of (cc := cX5_canBe) (maxL := 2) (ret := (some .boolean)) (by decide) rfl (Nat.le_of_ble_eq_true rfl) ?_
  intro p e s m args below meth c A X
  have X : Cx p s m args meth c cX5_canBe 2 (some .boolean) RX5 wsX5_canBe D (tyL cB cI cZ) A := X
  show WW p l e rmX5_canBe s m args below meth c 2 D A (mW ad cB cI cZ) (QI below args s D (tyL cB cI cZ) (mW ad cB cI cZ) A post) z 0 [(0, .int a0), (1, .int a1)] []
  unfold pX5_canBe at hp
  refine ww_iload_n X dX5_canBe_0 0 rfl ?_
  rcases Classical.em (a0 = 0) with h1 | h1
  · have hp := hp.1 h1
    refine ww_tin X (0) (off := 39) (tgt := 40) dX5_canBe_1 h1 (by decide) (by decide) (by decide) (by decide) ?_
    refine ww_iload_n X dX5_canBe_40 1 rfl ?_
    refine ww_bipush X (v := 20) dX5_canBe_41 (by decide) ?_
    refine ww_sipush X (v := 600) dX5_canBe_43 (by decide) ?_
    refine ww_callS_i X (As := [.int a1, .int 20, .int 600]) (rest := []) (kX5_lies l D ad cB cI cZ a1 20 600 z _ hp) (va_cwS 3 X.hts gX5_canBe_X5_lies rfl rfl rfl hn_X5_lies ⟨Nat.le_of_ble_eq_true rfl, Nat.le_of_ble_eq_true rfl⟩) rfl rfl (Nat.le_of_ble_eq_true rfl) dX5_canBe_46 (fun r3 u2 hp => ?_)
    exact ww_zret X hp.1 hp.2 dX5_canBe_49
  have hp := hp.2 h1
  rcases Classical.em (a0 = 1) with h4 | h4
  · have hp := hp.1 h4
    refine ww_tin X (1) (off := 49) (tgt := 50) dX5_canBe_1 h4 (by decide) (by decide) (by decide) (by decide) ?_
    refine ww_iload_n X dX5_canBe_50 1 rfl ?_
    refine ww_bipush X (v := 99) dX5_canBe_51 (by decide) ?_
    refine ww_icmp_gt X (tgt := 60) dX5_canBe_53 (by decide) (fun h5 => ?_) (fun h5 => ?_)
    · have hp := hp.1 h5
      refine ww_iconst X (v := 0) dX5_canBe_60 (by decide) ?_
      exact ww_sub (lv' := []) [] rfl (wX5_canBe_b61 X  0 z hp)
    · have hp := hp.2 h5
      refine ww_iconst X (v := 1) dX5_canBe_56 (by decide) ?_
      refine ww_goto X (tgt := 61) dX5_canBe_57 (by decide) ?_
      exact ww_sub (lv' := []) [] rfl (wX5_canBe_b61 X  1 z hp)
  have hp := hp.2 h4
  rcases Classical.em (a0 = 2) with h6 | h6
  · have hp := hp.1 h6
    refine ww_tin X (2) (off := 61) (tgt := 62) dX5_canBe_1 h6 (by decide) (by decide) (by decide) (by decide) ?_
    refine ww_iload_n X dX5_canBe_62 1 rfl ?_
    refine ww_sipush X (v := 999) dX5_canBe_63 (by decide) ?_
    refine ww_icmp_gt X (tgt := 73) dX5_canBe_66 (by decide) (fun h7 => ?_) (fun h7 => ?_)
    · have hp := hp.1 h7
      refine ww_iconst X (v := 0) dX5_canBe_73 (by decide) ?_
      exact ww_sub (lv' := []) [] rfl (wX5_canBe_b74 X  0 z hp)
    · have hp := hp.2 h7
      refine ww_iconst X (v := 1) dX5_canBe_69 (by decide) ?_
      refine ww_goto X (tgt := 74) dX5_canBe_70 (by decide) ?_
      exact ww_sub (lv' := []) [] rfl (wX5_canBe_b74 X  1 z hp)
  have hp := hp.2 h6
  rcases Classical.em (a0 = 3) with h8 | h8
  · have hp := hp.1 h8
    refine ww_tin X (3) (off := 61) (tgt := 62) dX5_canBe_1 h8 (by decide) (by decide) (by decide) (by decide) ?_
    refine ww_iload_n X dX5_canBe_62 1 rfl ?_
    refine ww_sipush X (v := 999) dX5_canBe_63 (by decide) ?_
    refine ww_icmp_gt X (tgt := 73) dX5_canBe_66 (by decide) (fun h9 => ?_) (fun h9 => ?_)
    · have hp := hp.1 h9
      refine ww_iconst X (v := 0) dX5_canBe_73 (by decide) ?_
      exact ww_sub (lv' := []) [] rfl (wX5_canBe_b74 X  0 z hp)
    · have hp := hp.2 h9
      refine ww_iconst X (v := 1) dX5_canBe_69 (by decide) ?_
      refine ww_goto X (tgt := 74) dX5_canBe_70 (by decide) ?_
      exact ww_sub (lv' := []) [] rfl (wX5_canBe_b74 X  1 z hp)
  have hp := hp.2 h8
  rcases Classical.em (a0 = 4) with h10 | h10
  · have hp := hp.1 h10
    refine ww_tin X (4) (off := 74) (tgt := 75) dX5_canBe_1 h10 (by decide) (by decide) (by decide) (by decide) ?_
    refine ww_iload_n X dX5_canBe_75 1 rfl ?_
    refine ww_sipush X (v := 200) dX5_canBe_76 (by decide) ?_
    refine ww_icmp_gt X (tgt := 86) dX5_canBe_79 (by decide) (fun h11 => ?_) (fun h11 => ?_)
    · have hp := hp.1 h11
      refine ww_iconst X (v := 0) dX5_canBe_86 (by decide) ?_
      exact ww_sub (lv' := []) [] rfl (wX5_canBe_b87 X  0 z hp)
    · have hp := hp.2 h11
      refine ww_iconst X (v := 1) dX5_canBe_82 (by decide) ?_
      refine ww_goto X (tgt := 87) dX5_canBe_83 (by decide) ?_
      exact ww_sub (lv' := []) [] rfl (wX5_canBe_b87 X  1 z hp)
  have hp := hp.2 h10
  rcases Classical.em (a0 = 5) with h12 | h12
  · have hp := hp.1 h12
    refine ww_tin X (5) (off := 87) (tgt := 88) dX5_canBe_1 h12 (by decide) (by decide) (by decide) (by decide) ?_
    refine ww_iload_n X dX5_canBe_88 1 rfl ?_
    refine ww_iconst X (v := 1) dX5_canBe_89 (by decide) ?_
    refine ww_bipush X (v := 24) dX5_canBe_90 (by decide) ?_
    refine ww_callS_i X (As := [.int a1, .int 1, .int 24]) (rest := []) (kX5_lies l D ad cB cI cZ a1 1 24 z _ hp) (va_cwS 3 X.hts gX5_canBe_X5_lies rfl rfl rfl hn_X5_lies ⟨Nat.le_of_ble_eq_true rfl, Nat.le_of_ble_eq_true rfl⟩) rfl rfl (Nat.le_of_ble_eq_true rfl) dX5_canBe_92 (fun r14 u13 hp => ?_)
    exact ww_zret X hp.1 hp.2 dX5_canBe_95
  have hp := hp.2 h12
  have e15 : a0.toInt ≠ 0 := fun q => h1 (Int32.toInt_inj.mp (q.trans (by decide)))
  have e16 : a0.toInt ≠ 1 := fun q => h4 (Int32.toInt_inj.mp (q.trans (by decide)))
  have e17 : a0.toInt ≠ 2 := fun q => h6 (Int32.toInt_inj.mp (q.trans (by decide)))
  have e18 : a0.toInt ≠ 3 := fun q => h8 (Int32.toInt_inj.mp (q.trans (by decide)))
  have e19 : a0.toInt ≠ 4 := fun q => h10 (Int32.toInt_inj.mp (q.trans (by decide)))
  have e20 : a0.toInt ≠ 5 := fun q => h12 (Int32.toInt_inj.mp (q.trans (by decide)))
  refine ww_tout X (tgt := 96) dX5_canBe_1 (by omega) (by decide) ?_
  refine ww_iload_n X dX5_canBe_96 1 rfl ?_
  refine ww_iconst X (v := 1) dX5_canBe_97 (by decide) ?_
  refine ww_icmp_gt X (tgt := 105) dX5_canBe_98 (by decide) (fun h21 => ?_) (fun h21 => ?_)
  · have hp := hp.1 h21
    refine ww_iconst X (v := 0) dX5_canBe_105 (by decide) ?_
    exact ww_sub (lv' := []) [] rfl (wX5_canBe_b106 X  0 z hp)
  · have hp := hp.2 h21
    refine ww_iconst X (v := 1) dX5_canBe_101 (by decide) ?_
    refine ww_goto X (tgt := 106) dX5_canBe_102 (by decide) ?_
    exact ww_sub (lv' := []) [] rfl (wX5_canBe_b106 X  1 z hp)
set_option maxHeartbeats 4000000 in
set_option maxRecDepth 100000 in
theorem wX5_at_b19 {p : Program} {l : Launch} {e : Env} {s : State} {m : MethodId} {args : Array Value} {below : List Frame} {meth : Method} {c : Code} {D : va_G} {A : Nat → Prop} {ad : Nat → Nat} {cB cI cZ : ClassId} {post : Int32 → Sg → Prop}  (X : Cx p s m args meth c cX5_at 3 (some .int) RX5 wsX5_at D (tyL cB cI cZ) A)  (y0 : Int32) (z : Sg) (hp : pX5_at_b19  post y0 z) : WW p l e rmX5_at s m args below meth c 3 D A (mW ad cB cI cZ) (QI below args s D (tyL cB cI cZ) (mW ad cB cI cZ) A post) z 19 [(0, .ref (ad 0))] [.int y0] := by
  unfold pX5_at_b19 at hp
  exact ww_iret X hp dX5_at_19
set_option maxHeartbeats 4000000 in
set_option maxRecDepth 100000 in
theorem kX5_at (l : Launch) (D : va_G) (ad : Nat → Nat) (cB cI cZ : ClassId) (a1 a2 : Int32) (z : Sg) (post : Int32 → Sg → Prop) (hp : pX5_at a1 a2 z post) : Ci l D (tyL cB cI cZ) (mW ad cB cI cZ) yX5_at wsX5_at rmX5_at [.ref (ad 0), .int a1, .int a2] z post := by
  refine Ci.of (cc := cX5_at) (maxL := 3) (ret := (some .int)) (by decide) rfl (Nat.le_of_ble_eq_true rfl) ?_
  intro p e s m args below meth c A X
  have X : Cx p s m args meth c cX5_at 3 (some .int) RX5 wsX5_at D (tyL cB cI cZ) A := X
  show WW p l e rmX5_at s m args below meth c 3 D A (mW ad cB cI cZ) (QI below args s D (tyL cB cI cZ) (mW ad cB cI cZ) A post) z 0 [(0, .ref (ad 0)), (1, .int a1), (2, .int a2)] []
  unfold pX5_at at hp
  refine ww_iload_n X dX5_at_0 1 rfl ?_
  refine ww_iload_n X dX5_at_1 2 rfl ?_
  refine ww_icmp_ge X (tgt := 18) dX5_at_2 (by decide) (fun h1 => ?_) (fun h1 => ?_)
  · have hp := hp.1 h1
    refine ww_iconst X (v := 0) dX5_at_18 (by decide) ?_
    exact ww_sub (lv' := [(0, .ref (ad 0))]) [0] rfl (wX5_at_b19 X  0 z hp)
  · have hp := hp.2 h1
    refine ww_aload_n X dX5_at_5 0 rfl ?_
    refine ww_get X in_X5_at_X5 0 mg_0 rfl 0 (by decide) (X.wd 1 rfl) (v := .ref (ad 1)) rfl dX5_at_6 ?_
    refine ww_iload_n X dX5_at_9 1 rfl ?_
    obtain ⟨h2, hp⟩ := hp
    refine ww_bald X 1 0 mg_1 rfl (v := (gA z 0 a1)) h2 rfl dX5_at_10 ?_
    refine ww_sipush X (v := 255) dX5_at_11 (by decide) ?_
    refine ww_iand X dX5_at_14 ?_
    refine ww_goto X (tgt := 19) dX5_at_15 (by decide) ?_
    exact ww_sub (lv' := [(0, .ref (ad 0))]) [0] rfl (wX5_at_b19 X  ((gA z 0 a1) &&& 255) z hp)
set_option maxHeartbeats 4000000 in
set_option maxRecDepth 100000 in
theorem wX5_reads_b71 {p : Program} {l : Launch} {e : Env} {s : State} {m : MethodId} {args : Array Value} {below : List Frame} {meth : Method} {c : Code} {D : va_G} {A : Nat → Prop} {ad : Nat → Nat} {cB cI cZ : ClassId} {post : Int32 → Sg → Prop} {K11 : Int32 → Int32 → Int32 → Sg → Prop} {K71 : Int32 → Int32 → Int32 → Int32 → Int32 → Int32 → Sg → Prop} (X : Cx p s m args meth c cX5_reads 7 (some .int) RX5 wsX5_reads D (tyL cB cI cZ) A) (hK11 : ∀ (x1 x2 x3 : Int32) (z : Sg), K11 x1 x2 x3 z → WW p l e rmX5_reads s m args below meth c 7 D A (mW ad cB cI cZ) (QI below args s D (tyL cB cI cZ) (mW ad cB cI cZ) A post) z 11 [(0, .ref (ad 0)), (1, .int x1), (2, .int x2), (3, .int x3)] []) (hK71 : ∀ (x1 x2 x3 x4 x5 x6 : Int32) (z : Sg), K71 x1 x2 x3 x4 x5 x6 z → WW p l e rmX5_reads s m args below meth c 7 D A (mW ad cB cI cZ) (QI below args s D (tyL cB cI cZ) (mW ad cB cI cZ) A post) z 71 [(0, .ref (ad 0)), (1, .int x1), (2, .int x2), (3, .int x3), (4, .int x4), (5, .int x5), (6, .int x6)] []) (x1 x2 x3 x4 x5 x6 : Int32) (z : Sg) (hp : pX5_reads_b71 K11 K71 post x1 x2 x3 x4 x5 x6 z) : WW p l e rmX5_reads s m args below meth c 7 D A (mW ad cB cI cZ) (QI below args s D (tyL cB cI cZ) (mW ad cB cI cZ) A post) z 71 [(0, .ref (ad 0)), (1, .int x1), (2, .int x2), (3, .int x3), (4, .int x4), (5, .int x5), (6, .int x6)] [] := by
  unfold pX5_reads_b71 at hp
  refine ww_aload_n X dX5_reads_71 0 rfl ?_
  refine ww_iload_n X dX5_reads_72 2 rfl ?_
  refine ww_iload_n X dX5_reads_73 1 rfl ?_
  refine ww_callV_i X (As := [.int x2, .int x1]) (rest := []) (kX5_at l D ad cB cI cZ x2 x1 z _ hp) (cwV 2 X.hts gX5_reads_X5_at rfl rfl rfl hd_X5_at ⟨Nat.le_of_ble_eq_true rfl, Nat.le_of_ble_eq_true rfl⟩) 0 5 mg_0 rfl rfl rfl rfl (Nat.le_of_ble_eq_true rfl) dX5_reads_74 (fun r2 u1 hp => ?_)
  refine ww_bipush X (v := 48) dX5_reads_77 (by decide) ?_
  refine ww_bipush X (v := 57) dX5_reads_79 (by decide) ?_
  refine ww_callS_i X (As := [.int r2, .int 48, .int 57]) (rest := []) (kX5_lies l D ad cB cI cZ r2 48 57 u1 _ hp) (va_cwS 3 X.hts gX5_reads_X5_lies rfl rfl rfl hn_X5_lies ⟨Nat.le_of_ble_eq_true rfl, Nat.le_of_ble_eq_true rfl⟩) rfl rfl (Nat.le_of_ble_eq_true rfl) dX5_reads_81 (fun r4 u3 hp => ?_)
  refine ww_if_eq X (tgt := 124) dX5_reads_84 (by decide) (fun h5 => ?_) (fun h5 => ?_)
  · have hp := hp.1 h5
    refine ww_iload X dX5_reads_124 4 rfl ?_
    refine ww_iload X dX5_reads_126 6 rfl ?_
    refine ww_callS_i X (As := [.int x4, .int x6]) (rest := []) (kX5_canBe l D ad cB cI cZ x4 x6 u3 _ hp) (va_cwS 2 X.hts gX5_reads_X5_canBe rfl rfl rfl hn_X5_canBe ⟨Nat.le_of_ble_eq_true rfl, Nat.le_of_ble_eq_true rfl⟩) rfl rfl (Nat.le_of_ble_eq_true rfl) dX5_reads_128 (fun r7 u6 hp => ?_)
    refine ww_if_ne X (tgt := 141) dX5_reads_131 (by decide) (fun h8 => ?_) (fun h8 => ?_)
    · have hp := hp.1 h8
      refine ww_aload_n X dX5_reads_141 0 rfl ?_
      refine ww_get X in_X5_reads_X5 0 mg_0 rfl 3 (by decide) (X.wd 1 rfl) (v := .ref (ad 3)) rfl dX5_reads_142 ?_
      refine ww_iload X dX5_reads_145 4 rfl ?_
      refine ww_iload X dX5_reads_147 6 rfl ?_
      obtain ⟨h9, hp⟩ := hp
      refine ww_iast X 3 1 mg_3 rfl (sg' := (sA u6 2 x4 x6)) h9 ma_3 dX5_reads_149 ?_
      refine ww_iload_n X dX5_reads_150 2 rfl ?_
      refine ww_iload_n X dX5_reads_151 1 rfl ?_
      refine ww_icmp_ne X (tgt := 157) dX5_reads_152 (by decide) (fun h10 => ?_) (fun h10 => ?_)
      · have hp := hp.1 h10
        refine ww_aload_n X dX5_reads_157 0 rfl ?_
        refine ww_iload_n X dX5_reads_158 2 rfl ?_
        refine ww_iload_n X dX5_reads_159 1 rfl ?_
        refine ww_callV_i X (As := [.int x2, .int x1]) (rest := []) (kX5_at l D ad cB cI cZ x2 x1 (sA u6 2 x4 x6) _ hp) (cwV 2 X.hts gX5_reads_X5_at rfl rfl rfl hd_X5_at ⟨Nat.le_of_ble_eq_true rfl, Nat.le_of_ble_eq_true rfl⟩) 0 5 mg_0 rfl rfl rfl rfl (Nat.le_of_ble_eq_true rfl) dX5_reads_160 (fun r12 u11 hp => ?_)
        refine ww_bipush X (v := 59) dX5_reads_163 (by decide) ?_
        refine ww_icmp_eq X (tgt := 174) dX5_reads_165 (by decide) (fun h13 => ?_) (fun h13 => ?_)
        · have hp := hp.1 h13
          refine ww_iinc X (v := (x2 + 1)) (lv' := [(2, .int (x2 + 1)), (0, .ref (ad 0)), (1, .int x1), (3, .int x3), (4, .int x4), (5, .int x5), (6, .int x6)]) dX5_reads_174 2 rfl rfl (by decide) rfl ?_
          refine ww_iinc X (v := (x3 + 1)) (lv' := [(3, .int (x3 + 1)), (2, .int (x2 + 1)), (0, .ref (ad 0)), (1, .int x1), (4, .int x4), (5, .int x5), (6, .int x6)]) dX5_reads_177 3 rfl rfl (by decide) rfl ?_
          refine ww_goto X (tgt := 11) dX5_reads_180 (by decide) ?_
          exact ww_sub (lv' := [(0, .ref (ad 0)), (1, .int x1), (2, .int (x2 + 1)), (3, .int (x3 + 1))]) [2, 3, 1, 0] rfl (hK11 x1 (x2 + 1) (x3 + 1) u11 hp)
        · have hp := hp.2 h13
          refine ww_sipush X (v := 500) dX5_reads_168 (by decide) ?_
          refine ww_iload_n X dX5_reads_171 2 rfl ?_
          refine ww_iadd X dX5_reads_172 ?_
          exact ww_iret X hp dX5_reads_173
      · have hp := hp.2 h10
        refine ww_iconst X (v := 0) dX5_reads_155 (by decide) ?_
        exact ww_iret X hp dX5_reads_156
    · have hp := hp.2 h8
      refine ww_sipush X (v := 400) dX5_reads_134 (by decide) ?_
      refine ww_iload X dX5_reads_137 5 rfl ?_
      refine ww_iadd X dX5_reads_139 ?_
      exact ww_iret X hp dX5_reads_140
  · have hp := hp.2 h5
    refine ww_iload_n X dX5_reads_87 2 rfl ?_
    refine ww_iload X dX5_reads_88 5 rfl ?_
    refine ww_iconst X (v := 4) dX5_reads_90 (by decide) ?_
    refine ww_iadd X dX5_reads_91 ?_
    refine ww_icmp_ne X (tgt := 101) dX5_reads_92 (by decide) (fun h14 => ?_) (fun h14 => ?_)
    · have hp := hp.1 h14
      refine ww_bipush X (v := 10) dX5_reads_101 (by decide) ?_
      refine ww_iload X dX5_reads_103 6 rfl ?_
      refine ww_imul X dX5_reads_105 ?_
      refine ww_aload_n X dX5_reads_106 0 rfl ?_
      refine ww_iload_n X dX5_reads_107 2 rfl ?_
      refine ww_iload_n X dX5_reads_108 1 rfl ?_
      refine ww_callV_i X (As := [.int x2, .int x1]) (rest := [.int (10 * x6)]) (kX5_at l D ad cB cI cZ x2 x1 u3 _ hp) (cwV 2 X.hts gX5_reads_X5_at rfl rfl rfl hd_X5_at ⟨Nat.le_of_ble_eq_true rfl, Nat.le_of_ble_eq_true rfl⟩) 0 5 mg_0 rfl rfl rfl rfl (Nat.le_of_ble_eq_true rfl) dX5_reads_109 (fun r16 u15 hp => ?_)
      refine ww_iadd X dX5_reads_112 ?_
      refine ww_bipush X (v := 48) dX5_reads_113 (by decide) ?_
      refine ww_isub X dX5_reads_115 ?_
      refine ww_top (fun v17 hv17 => ?_)
      have hp := hp v17 hv17
      refine ww_istore X (lv' := [(6, .int v17), (0, .ref (ad 0)), (1, .int x1), (2, .int x2), (3, .int x3), (4, .int x4), (5, .int x5)]) dX5_reads_116 (by decide) rfl ?_
      refine ww_iinc X (v := (x2 + 1)) (lv' := [(2, .int (x2 + 1)), (6, .int v17), (0, .ref (ad 0)), (1, .int x1), (3, .int x3), (4, .int x4), (5, .int x5)]) dX5_reads_118 3 rfl rfl (by decide) rfl ?_
      refine ww_goto X (tgt := 71) dX5_reads_121 (by decide) ?_
      exact ww_sub (lv' := [(0, .ref (ad 0)), (1, .int x1), (2, .int (x2 + 1)), (3, .int x3), (4, .int x4), (5, .int x5), (6, .int v17)]) [2, 3, 0, 4, 5, 6, 1] rfl (hK71 x1 (x2 + 1) x3 x4 x5 v17 u15 hp)
    · have hp := hp.2 h14
      refine ww_sipush X (v := 300) dX5_reads_95 (by decide) ?_
      refine ww_iload_n X dX5_reads_98 2 rfl ?_
      refine ww_iadd X dX5_reads_99 ?_
      exact ww_iret X hp dX5_reads_100
set_option maxHeartbeats 4000000 in
set_option maxRecDepth 100000 in
theorem wX5_reads_l71 {p : Program} {l : Launch} {e : Env} {s : State} {m : MethodId} {args : Array Value} {below : List Frame} {meth : Method} {c : Code} {D : va_G} {A : Nat → Prop} {ad : Nat → Nat} {cB cI cZ : ClassId} {post : Int32 → Sg → Prop} {K11 : Int32 → Int32 → Int32 → Sg → Prop} (X : Cx p s m args meth c cX5_reads 7 (some .int) RX5 wsX5_reads D (tyL cB cI cZ) A) (hK11 : ∀ (x1 x2 x3 : Int32) (z : Sg), K11 x1 x2 x3 z → WW p l e rmX5_reads s m args below meth c 7 D A (mW ad cB cI cZ) (QI below args s D (tyL cB cI cZ) (mW ad cB cI cZ) A post) z 11 [(0, .ref (ad 0)), (1, .int x1), (2, .int x2), (3, .int x3)] []) (x1 x2 x3 x4 x5 x6 : Int32) (z : Sg) (hp : pX5_reads_l71 K11 post x1 x2 x3 x4 x5 x6 z) : WW p l e rmX5_reads s m args below meth c 7 D A (mW ad cB cI cZ) (QI below args s D (tyL cB cI cZ) (mW ad cB cI cZ) A post) z 71 [(0, .ref (ad 0)), (1, .int x1), (2, .int x2), (3, .int x3), (4, .int x4), (5, .int x5), (6, .int x6)] [] := by
  have key := lp_walk (F := (fun (K : Int32 × Int32 × Int32 × Int32 × Int32 × Int32 → Sg → Prop) (a : Int32 × Int32 × Int32 × Int32 × Int32 × Int32) (z : Sg) => pX5_reads_b71 K11 (fun (x1 x2 x3 x4 x5 x6 : Int32) z => K (x1, x2, x3, x4, x5, x6) z) post a.1 a.2.1 a.2.2.1 a.2.2.2.1 a.2.2.2.2.1 a.2.2.2.2.2 z)) (P := fun a z => WW p l e rmX5_reads s m args below meth c 7 D A (mW ad cB cI cZ) (QI below args s D (tyL cB cI cZ) (mW ad cB cI cZ) A post) z 71 [(0, .ref (ad 0)), (1, .int a.1), (2, .int a.2.1), (3, .int a.2.2.1), (4, .int a.2.2.2.1), (5, .int a.2.2.2.2.1), (6, .int a.2.2.2.2.2)] []) (fun K hK a z hp => wX5_reads_b71 X hK11 (fun x1 x2 x3 x4 x5 x6 z h => hK (x1, x2, x3, x4, x5, x6) z h) a.1 a.2.1 a.2.2.1 a.2.2.2.1 a.2.2.2.2.1 a.2.2.2.2.2 z hp)
  exact key (x1, x2, x3, x4, x5, x6) z hp
set_option maxHeartbeats 4000000 in
set_option maxRecDepth 100000 in
theorem wX5_reads_b11 {p : Program} {l : Launch} {e : Env} {s : State} {m : MethodId} {args : Array Value} {below : List Frame} {meth : Method} {c : Code} {D : va_G} {A : Nat → Prop} {ad : Nat → Nat} {cB cI cZ : ClassId} {post : Int32 → Sg → Prop} {K11 : Int32 → Int32 → Int32 → Sg → Prop} (X : Cx p s m args meth c cX5_reads 7 (some .int) RX5 wsX5_reads D (tyL cB cI cZ) A) (hK11 : ∀ (x1 x2 x3 : Int32) (z : Sg), K11 x1 x2 x3 z → WW p l e rmX5_reads s m args below meth c 7 D A (mW ad cB cI cZ) (QI below args s D (tyL cB cI cZ) (mW ad cB cI cZ) A post) z 11 [(0, .ref (ad 0)), (1, .int x1), (2, .int x2), (3, .int x3)] []) (x1 x2 x3 : Int32) (z : Sg) (hp : pX5_reads_b11 K11 post x1 x2 x3 z) : WW p l e rmX5_reads s m args below meth c 7 D A (mW ad cB cI cZ) (QI below args s D (tyL cB cI cZ) (mW ad cB cI cZ) A post) z 11 [(0, .ref (ad 0)), (1, .int x1), (2, .int x2), (3, .int x3)] [] := by
  unfold pX5_reads_b11 at hp
  refine ww_iload_n X dX5_reads_11 3 rfl ?_
  refine ww_iload_n X dX5_reads_12 1 rfl ?_
  refine ww_icmp_gt X (tgt := 183) dX5_reads_13 (by decide) (fun h1 => ?_) (fun h1 => ?_)
  · have hp := hp.1 h1
    refine ww_bipush X (v := 100) dX5_reads_183 (by decide) ?_
    refine ww_iload_n X dX5_reads_185 2 rfl ?_
    refine ww_iadd X dX5_reads_186 ?_
    exact ww_iret X hp dX5_reads_187
  · have hp := hp.2 h1
    refine ww_aload_n X dX5_reads_16 0 rfl ?_
    refine ww_iload_n X dX5_reads_17 2 rfl ?_
    refine ww_iload_n X dX5_reads_18 1 rfl ?_
    refine ww_callV_i X (As := [.int x2, .int x1]) (rest := []) (kX5_at l D ad cB cI cZ x2 x1 z _ hp) (cwV 2 X.hts gX5_reads_X5_at rfl rfl rfl hd_X5_at ⟨Nat.le_of_ble_eq_true rfl, Nat.le_of_ble_eq_true rfl⟩) 0 5 mg_0 rfl rfl rfl rfl (Nat.le_of_ble_eq_true rfl) dX5_reads_19 (fun r3 u2 hp => ?_)
    refine ww_callS_i X (As := [.int r3]) (rest := []) (kX5_letter l D ad cB cI cZ r3 u2 _ hp) (va_cwS 1 X.hts gX5_reads_X5_letter rfl rfl rfl hn_X5_letter ⟨Nat.le_of_ble_eq_true rfl, Nat.le_of_ble_eq_true rfl⟩) rfl rfl (Nat.le_of_ble_eq_true rfl) dX5_reads_22 (fun r5 u4 hp => ?_)
    refine ww_istore X (lv' := [(4, .int r5), (0, .ref (ad 0)), (1, .int x1), (2, .int x2), (3, .int x3)]) dX5_reads_25 (by decide) rfl ?_
    refine ww_iload X dX5_reads_27 0 rfl ?_
    refine ww_sipush X (v := (-10000)) dX5_reads_29 (by decide) ?_
    refine ww_icmp_ne X (tgt := 40) dX5_reads_32 (by decide) (fun h6 => ?_) (fun h6 => ?_)
    · have hp := hp.1 h6
      refine ww_iinc X (v := (x2 + 1)) (lv' := [(2, .int (x2 + 1)), (4, .int r5), (0, .ref (ad 0)), (1, .int x1), (3, .int x3)]) dX5_reads_40 3 rfl rfl (by decide) rfl ?_
      refine ww_aload_n X dX5_reads_43 2 rfl ?_
      refine ww_iload_n X dX5_reads_44 0 rfl ?_
      refine ww_iload_n X dX5_reads_45 3 rfl ?_
      refine ww_callV_i X (As := [.int (x2 + 1), .int x1]) (rest := []) (kX5_at l D ad cB cI cZ (x2 + 1) x1 u4 _ hp) (cwV 2 X.hts gX5_reads_X5_at rfl rfl rfl hd_X5_at ⟨Nat.le_of_ble_eq_true rfl, Nat.le_of_ble_eq_true rfl⟩) 0 5 mg_0 rfl rfl rfl rfl (Nat.le_of_ble_eq_true rfl) dX5_reads_46 (fun r8 u7 hp => ?_)
      refine ww_bipush X (v := 48) dX5_reads_49 (by decide) ?_
      refine ww_bipush X (v := 57) dX5_reads_51 (by decide) ?_
      refine ww_callS_i X (As := [.int r8, .int 48, .int 57]) (rest := []) (kX5_lies l D ad cB cI cZ r8 48 57 u7 _ hp) (va_cwS 3 X.hts gX5_reads_X5_lies rfl rfl rfl hn_X5_lies ⟨Nat.le_of_ble_eq_true rfl, Nat.le_of_ble_eq_true rfl⟩) rfl rfl (Nat.le_of_ble_eq_true rfl) dX5_reads_53 (fun r10 u9 hp => ?_)
      refine ww_if_ne X (tgt := 65) dX5_reads_56 (by decide) (fun h11 => ?_) (fun h11 => ?_)
      · have hp := hp.1 h11
        refine ww_iload_n X dX5_reads_65 0 rfl ?_
        refine ww_top (fun v12 hv12 => ?_)
        have hp := hp v12 hv12
        refine ww_istore X (lv' := [(5, .int v12), (2, .int (x2 + 1)), (4, .int r5), (0, .ref (ad 0)), (1, .int x1), (3, .int x3)]) dX5_reads_66 (by decide) rfl ?_
        refine ww_iconst X (v := 0) dX5_reads_68 (by decide) ?_
        refine ww_istore X (lv' := [(6, .int 0), (5, .int v12), (2, .int (x2 + 1)), (4, .int r5), (0, .ref (ad 0)), (1, .int x1), (3, .int x3)]) dX5_reads_69 (by decide) rfl ?_
        exact ww_sub (lv' := [(0, .ref (ad 0)), (1, .int x1), (2, .int (x2 + 1)), (3, .int x3), (4, .int r5), (5, .int v12), (6, .int 0)]) [4, 5, 2, 6, 3, 1, 0] rfl (wX5_reads_l71 X hK11 x1 (x2 + 1) x3 r5 v12 0 u9 hp)
      · have hp := hp.2 h11
        refine ww_sipush X (v := 200) dX5_reads_59 (by decide) ?_
        refine ww_iload_n X dX5_reads_62 0 rfl ?_
        refine ww_iadd X dX5_reads_63 ?_
        exact ww_iret X hp dX5_reads_64
    · have hp := hp.2 h6
      refine ww_bipush X (v := 100) dX5_reads_35 (by decide) ?_
      refine ww_iload_n X dX5_reads_37 3 rfl ?_
      refine ww_iadd X dX5_reads_38 ?_
      exact ww_iret X hp dX5_reads_39
set_option maxHeartbeats 4000000 in
set_option maxRecDepth 100000 in
theorem wX5_reads_l11 {p : Program} {l : Launch} {e : Env} {s : State} {m : MethodId} {args : Array Value} {below : List Frame} {meth : Method} {c : Code} {D : va_G} {A : Nat → Prop} {ad : Nat → Nat} {cB cI cZ : ClassId} {post : Int32 → Sg → Prop}  (X : Cx p s m args meth c cX5_reads 7 (some .int) RX5 wsX5_reads D (tyL cB cI cZ) A)  (x1 x2 x3 : Int32) (z : Sg) (hp : pX5_reads_l11  post x1 x2 x3 z) : WW p l e rmX5_reads s m args below meth c 7 D A (mW ad cB cI cZ) (QI below args s D (tyL cB cI cZ) (mW ad cB cI cZ) A post) z 11 [(0, .ref (ad 0)), (1, .int x1), (2, .int x2), (3, .int x3)] [] := by
  have key := lp_walk (F := (fun (K : Int32 × Int32 × Int32 → Sg → Prop) (a : Int32 × Int32 × Int32) (z : Sg) => pX5_reads_b11 (fun (x1 x2 x3 : Int32) z => K (x1, x2, x3) z) post a.1 a.2.1 a.2.2 z)) (P := fun a z => WW p l e rmX5_reads s m args below meth c 7 D A (mW ad cB cI cZ) (QI below args s D (tyL cB cI cZ) (mW ad cB cI cZ) A post) z 11 [(0, .ref (ad 0)), (1, .int a.1), (2, .int a.2.1), (3, .int a.2.2)] []) (fun K hK a z hp => wX5_reads_b11 X (fun x1 x2 x3 z h => hK (x1, x2, x3) z h) a.1 a.2.1 a.2.2 z hp)
  exact key (x1, x2, x3) z hp
set_option maxHeartbeats 4000000 in
set_option maxRecDepth 100000 in
theorem kX5_reads (l : Launch) (D : va_G) (ad : Nat → Nat) (cB cI cZ : ClassId) (a1 : Int32) (z : Sg) (post : Int32 → Sg → Prop) (hp : pX5_reads a1 z post) : Ci l D (tyL cB cI cZ) (mW ad cB cI cZ) yX5_reads wsX5_reads rmX5_reads [.ref (ad 0), .int a1] z post := by
  refine Ci.of (cc := cX5_reads) (maxL := 7) (ret := (some .int)) (by decide) rfl (Nat.le_of_ble_eq_true rfl) ?_
  intro p e s m args below meth c A X
  have X : Cx p s m args meth c cX5_reads 7 (some .int) RX5 wsX5_reads D (tyL cB cI cZ) A := X
  show WW p l e rmX5_reads s m args below meth c 7 D A (mW ad cB cI cZ) (QI below args s D (tyL cB cI cZ) (mW ad cB cI cZ) A post) z 0 [(0, .ref (ad 0)), (1, .int a1)] []
  unfold pX5_reads at hp
  refine ww_aload_n X dX5_reads_0 0 rfl ?_
  refine ww_get X in_X5_reads_X5 0 mg_0 rfl 3 (by decide) (X.wd 1 rfl) (v := .ref (ad 3)) rfl dX5_reads_1 ?_
  refine ww_callS_v X (As := [.ref (ad 3)]) (rest := []) (kX5_asAtFirst l D ad cB cI cZ  z _ hp) (va_cwS 1 X.hts gX5_reads_X5_asAtFirst rfl rfl rfl hn_X5_asAtFirst ⟨Nat.le_of_ble_eq_true rfl, Nat.le_of_ble_eq_true rfl⟩) rfl rfl (Nat.le_of_ble_eq_true rfl) dX5_reads_4 (fun u1 hp => ?_)
  refine ww_iconst X (v := 0) dX5_reads_7 (by decide) ?_
  refine ww_istore_n X (lv' := [(2, .int 0), (0, .ref (ad 0)), (1, .int a1)]) dX5_reads_8 (by decide) rfl ?_
  refine ww_iconst X (v := 0) dX5_reads_9 (by decide) ?_
  refine ww_istore_n X (lv' := [(3, .int 0), (2, .int 0), (0, .ref (ad 0)), (1, .int a1)]) dX5_reads_10 (by decide) rfl ?_
  exact ww_sub (lv' := [(0, .ref (ad 0)), (1, .int a1), (2, .int 0), (3, .int 0)]) [2, 3, 1, 0] rfl (wX5_reads_l11 X  a1 0 0 u1 hp)
set_option maxHeartbeats 4000000 in
set_option maxRecDepth 100000 in
theorem wX5_rules_b57 {p : Program} {l : Launch} {e : Env} {s : State} {m : MethodId} {args : Array Value} {below : List Frame} {meth : Method} {c : Code} {D : va_G} {A : Nat → Prop} {ad : Nat → Nat} {cB cI cZ : ClassId} {post : Int32 → Sg → Prop}  (X : Cx p s m args meth c cX5_rules 4 (some .int) RX5 wsX5_rules D (tyL cB cI cZ) A)  (x2 : Int32) (z : Sg) (hp : pX5_rules_b57  post x2 z) : WW p l e rmX5_rules s m args below meth c 4 D A (mW ad cB cI cZ) (QI below args s D (tyL cB cI cZ) (mW ad cB cI cZ) A post) z 57 [(0, .ref (ad 0)), (2, .int x2)] [] := by
  unfold pX5_rules_b57 at hp
  refine ww_iload_n X dX5_rules_57 1 rfl ?_
  exact ww_iret X hp dX5_rules_58
set_option maxHeartbeats 4000000 in
set_option maxRecDepth 100000 in
theorem wX5_rules_b29 {p : Program} {l : Launch} {e : Env} {s : State} {m : MethodId} {args : Array Value} {below : List Frame} {meth : Method} {c : Code} {D : va_G} {A : Nat → Prop} {ad : Nat → Nat} {cB cI cZ : ClassId} {post : Int32 → Sg → Prop} {K29 : Int32 → Int32 → Sg → Prop} (X : Cx p s m args meth c cX5_rules 4 (some .int) RX5 wsX5_rules D (tyL cB cI cZ) A) (hK29 : ∀ (x2 x3 : Int32) (z : Sg), K29 x2 x3 z → WW p l e rmX5_rules s m args below meth c 4 D A (mW ad cB cI cZ) (QI below args s D (tyL cB cI cZ) (mW ad cB cI cZ) A post) z 29 [(0, .ref (ad 0)), (2, .int x2), (3, .int x3)] []) (x2 x3 : Int32) (z : Sg) (hp : pX5_rules_b29 K29 post x2 x3 z) : WW p l e rmX5_rules s m args below meth c 4 D A (mW ad cB cI cZ) (QI below args s D (tyL cB cI cZ) (mW ad cB cI cZ) A post) z 29 [(0, .ref (ad 0)), (2, .int x2), (3, .int x3)] [] := by
  unfold pX5_rules_b29 at hp
  refine ww_iload_n X dX5_rules_29 2 rfl ?_
  refine ww_bipush X (v := 7) dX5_rules_30 (by decide) ?_
  refine ww_icmp_ge X (tgt := 57) dX5_rules_32 (by decide) (fun h1 => ?_) (fun h1 => ?_)
  · have hp := hp.1 h1
    exact ww_sub (lv' := [(0, .ref (ad 0)), (2, .int x2)]) [0, 1] rfl (wX5_rules_b57 X  x2 z hp)
  · have hp := hp.2 h1
    refine ww_iload_n X dX5_rules_35 1 rfl ?_
    refine ww_if_ne X (tgt := 57) dX5_rules_36 (by decide) (fun h2 => ?_) (fun h2 => ?_)
    · have hp := hp.1 h2
      exact ww_sub (lv' := [(0, .ref (ad 0)), (2, .int x2)]) [0, 1] rfl (wX5_rules_b57 X  x2 z hp)
    · have hp := hp.2 h2
      refine ww_aload_n X dX5_rules_39 0 rfl ?_
      refine ww_get X in_X5_rules_X5 0 mg_0 rfl 2 (by decide) (X.wd 2 rfl) (v := .ref (ad 2)) rfl dX5_rules_40 ?_
      refine ww_iload_n X dX5_rules_43 2 rfl ?_
      refine ww_aload_n X dX5_rules_44 0 rfl ?_
      refine ww_get X in_X5_rules_X5 0 mg_0 rfl 3 (by decide) (X.wd 3 rfl) (v := .ref (ad 3)) rfl dX5_rules_45 ?_
      refine ww_iload_n X dX5_rules_48 2 rfl ?_
      obtain ⟨h3, hp⟩ := hp
      refine ww_iald X 3 1 mg_3 rfl (v := (gA z 2 x3)) h3 rfl dX5_rules_49 ?_
      obtain ⟨h4, hp⟩ := hp
      refine ww_iast X 2 1 mg_2 rfl (sg' := (sA z 1 x3 (gA z 2 x3))) h4 ma_2 dX5_rules_50 ?_
      refine ww_iinc X (v := (x3 + 1)) (lv' := [(3, .int (x3 + 1)), (0, .ref (ad 0)), (2, .int x2)]) dX5_rules_51 2 rfl rfl (by decide) rfl ?_
      refine ww_goto X (tgt := 29) dX5_rules_54 (by decide) ?_
      exact ww_sub (lv' := [(0, .ref (ad 0)), (2, .int x2), (3, .int (x3 + 1))]) [1, 2, 0] rfl (hK29 x2 (x3 + 1) (sA z 1 x3 (gA z 2 x3)) hp)
set_option maxHeartbeats 4000000 in
set_option maxRecDepth 100000 in
theorem wX5_rules_l29 {p : Program} {l : Launch} {e : Env} {s : State} {m : MethodId} {args : Array Value} {below : List Frame} {meth : Method} {c : Code} {D : va_G} {A : Nat → Prop} {ad : Nat → Nat} {cB cI cZ : ClassId} {post : Int32 → Sg → Prop}  (X : Cx p s m args meth c cX5_rules 4 (some .int) RX5 wsX5_rules D (tyL cB cI cZ) A)  (x2 x3 : Int32) (z : Sg) (hp : pX5_rules_l29  post x2 x3 z) : WW p l e rmX5_rules s m args below meth c 4 D A (mW ad cB cI cZ) (QI below args s D (tyL cB cI cZ) (mW ad cB cI cZ) A post) z 29 [(0, .ref (ad 0)), (2, .int x2), (3, .int x3)] [] := by
  have key := lp_walk (F := (fun (K : Int32 × Int32 → Sg → Prop) (a : Int32 × Int32) (z : Sg) => pX5_rules_b29 (fun (x2 x3 : Int32) z => K (x2, x3) z) post a.1 a.2 z)) (P := fun a z => WW p l e rmX5_rules s m args below meth c 4 D A (mW ad cB cI cZ) (QI below args s D (tyL cB cI cZ) (mW ad cB cI cZ) A post) z 29 [(0, .ref (ad 0)), (2, .int a.1), (3, .int a.2)] []) (fun K hK a z hp => wX5_rules_b29 X (fun x2 x3 z h => hK (x2, x3) z h) a.1 a.2 z hp)
  exact key (x2, x3) z hp
set_option maxHeartbeats 4000000 in
set_option maxRecDepth 100000 in
theorem wX5_rules_b12 {p : Program} {l : Launch} {e : Env} {s : State} {m : MethodId} {args : Array Value} {below : List Frame} {meth : Method} {c : Code} {D : va_G} {A : Nat → Prop} {ad : Nat → Nat} {cB cI cZ : ClassId} {post : Int32 → Sg → Prop}  (X : Cx p s m args meth c cX5_rules 4 (some .int) RX5 wsX5_rules D (tyL cB cI cZ) A)  (z : Sg) (hp : pX5_rules_b12  post  z) : WW p l e rmX5_rules s m args below meth c 4 D A (mW ad cB cI cZ) (QI below args s D (tyL cB cI cZ) (mW ad cB cI cZ) A post) z 12 [(0, .ref (ad 0))] [] := by
  unfold pX5_rules_b12 at hp
  refine ww_sipush X (v := (-10000)) dX5_rules_12 (by decide) ?_
  exact ww_iret X hp dX5_rules_15
set_option maxHeartbeats 4000000 in
set_option maxRecDepth 100000 in
theorem kX5_rules (l : Launch) (D : va_G) (ad : Nat → Nat) (cB cI cZ : ClassId) (a1 : Int32) (z : Sg) (post : Int32 → Sg → Prop) (hp : pX5_rules a1 z post) : Ci l D (tyL cB cI cZ) (mW ad cB cI cZ) yX5_rules wsX5_rules rmX5_rules [.ref (ad 0), .int a1] z post := by
  refine Ci.of (cc := cX5_rules) (maxL := 4) (ret := (some .int)) (by decide) rfl (Nat.le_of_ble_eq_true rfl) ?_
  intro p e s m args below meth c A X
  have X : Cx p s m args meth c cX5_rules 4 (some .int) RX5 wsX5_rules D (tyL cB cI cZ) A := X
  show WW p l e rmX5_rules s m args below meth c 4 D A (mW ad cB cI cZ) (QI below args s D (tyL cB cI cZ) (mW ad cB cI cZ) A post) z 0 [(0, .ref (ad 0)), (1, .int a1)] []
  unfold pX5_rules at hp
  refine ww_iload_n X dX5_rules_0 1 rfl ?_
  refine ww_if_lt X (tgt := 12) dX5_rules_1 (by decide) (fun h1 => ?_) (fun h1 => ?_)
  · have hp := hp.1 h1
    exact ww_sub (lv' := [(0, .ref (ad 0))]) [0] rfl (wX5_rules_b12 X   z hp)
  · have hp := hp.2 h1
    refine ww_iload_n X dX5_rules_4 1 rfl ?_
    refine ww_aload_n X dX5_rules_5 0 rfl ?_
    refine ww_get X in_X5_rules_X5 0 mg_0 rfl 1 (by decide) (X.wd 1 rfl) (v := .int (z.1 0)) rfl dX5_rules_6 ?_
    refine ww_icmp_le X (tgt := 16) dX5_rules_9 (by decide) (fun h2 => ?_) (fun h2 => ?_)
    · have hp := hp.1 h2
      refine ww_aload_n X dX5_rules_16 0 rfl ?_
      refine ww_iconst X (v := 0) dX5_rules_17 (by decide) ?_
      refine ww_put X in_X5_rules_X5 tyX5 tyX5_ok nmX5 0 mg_0 rfl 1 (by decide) (X.wd 1 rfl) rfl pd_X5_1 (Nat.le_of_ble_eq_true rfl) (sg' := (sS z 0 0)) ms_0 dX5_rules_18 ?_
      refine ww_aload_n X dX5_rules_21 0 rfl ?_
      refine ww_iload_n X dX5_rules_22 1 rfl ?_
      refine ww_callV_i X (As := [.int a1]) (rest := []) (kX5_reads l D ad cB cI cZ a1 (sS z 0 0) _ hp) (cwV 1 X.hts gX5_rules_X5_reads rfl rfl rfl hd_X5_reads ⟨Nat.le_of_ble_eq_true rfl, Nat.le_of_ble_eq_true rfl⟩) 0 5 mg_0 rfl rfl rfl rfl (Nat.le_of_ble_eq_true rfl) dX5_rules_23 (fun r4 u3 hp => ?_)
      refine ww_istore_n X (lv' := [(2, .int r4), (0, .ref (ad 0)), (1, .int a1)]) dX5_rules_26 (by decide) rfl ?_
      refine ww_iconst X (v := 0) dX5_rules_27 (by decide) ?_
      refine ww_istore_n X (lv' := [(3, .int 0), (2, .int r4), (0, .ref (ad 0)), (1, .int a1)]) dX5_rules_28 (by decide) rfl ?_
      exact ww_sub (lv' := [(0, .ref (ad 0)), (2, .int r4), (3, .int 0)]) [2, 1, 0] rfl (wX5_rules_l29 X  r4 0 u3 hp)
    · have hp := hp.2 h2
      exact ww_sub (lv' := [(0, .ref (ad 0))]) [0] rfl (wX5_rules_b12 X   z hp)
set_option maxHeartbeats 4000000 in
set_option maxRecDepth 100000 in
theorem wX5_rule_b22 {p : Program} {l : Launch} {e : Env} {s : State} {m : MethodId} {args : Array Value} {below : List Frame} {meth : Method} {c : Code} {D : va_G} {A : Nat → Prop} {ad : Nat → Nat} {cB cI cZ : ClassId} {post : Int32 → Sg → Prop}  (X : Cx p s m args meth c cX5_rule 2 (some .int) RX5 wsX5_rule D (tyL cB cI cZ) A)  (y0 : Int32) (z : Sg) (hp : pX5_rule_b22  post y0 z) : WW p l e rmX5_rule s m args below meth c 2 D A (mW ad cB cI cZ) (QI below args s D (tyL cB cI cZ) (mW ad cB cI cZ) A post) z 22 [(0, .ref (ad 0))] [.int y0] := by
  unfold pX5_rule_b22 at hp
  exact ww_iret X hp dX5_rule_22
set_option maxHeartbeats 4000000 in
set_option maxRecDepth 100000 in
theorem kX5_rule (l : Launch) (D : va_G) (ad : Nat → Nat) (cB cI cZ : ClassId) (a1 : Int32) (z : Sg) (post : Int32 → Sg → Prop) (hp : pX5_rule a1 z post) : Ci l D (tyL cB cI cZ) (mW ad cB cI cZ) yX5_rule wsX5_rule rmX5_rule [.ref (ad 0), .int a1] z post := by
  refine Ci.of (cc := cX5_rule) (maxL := 2) (ret := (some .int)) (by decide) rfl (Nat.le_of_ble_eq_true rfl) ?_
  intro p e s m args below meth c A X
  have X : Cx p s m args meth c cX5_rule 2 (some .int) RX5 wsX5_rule D (tyL cB cI cZ) A := X
  show WW p l e rmX5_rule s m args below meth c 2 D A (mW ad cB cI cZ) (QI below args s D (tyL cB cI cZ) (mW ad cB cI cZ) A post) z 0 [(0, .ref (ad 0)), (1, .int a1)] []
  unfold pX5_rule at hp
  refine ww_iload_n X dX5_rule_0 1 rfl ?_
  refine ww_iconst X (v := 0) dX5_rule_1 (by decide) ?_
  refine ww_bipush X (v := 6) dX5_rule_2 (by decide) ?_
  refine ww_callS_i X (As := [.int a1, .int 0, .int 6]) (rest := []) (kX5_lies l D ad cB cI cZ a1 0 6 z _ hp) (va_cwS 3 X.hts gX5_rule_X5_lies rfl rfl rfl hn_X5_lies ⟨Nat.le_of_ble_eq_true rfl, Nat.le_of_ble_eq_true rfl⟩) rfl rfl (Nat.le_of_ble_eq_true rfl) dX5_rule_4 (fun r2 u1 hp => ?_)
  refine ww_if_eq X (tgt := 19) dX5_rule_7 (by decide) (fun h3 => ?_) (fun h3 => ?_)
  · have hp := hp.1 h3
    refine ww_sipush X (v := (-10000)) dX5_rule_19 (by decide) ?_
    exact ww_sub (lv' := [(0, .ref (ad 0))]) [0] rfl (wX5_rule_b22 X  (-10000) u1 hp)
  · have hp := hp.2 h3
    refine ww_aload_n X dX5_rule_10 0 rfl ?_
    refine ww_get X in_X5_rule_X5 0 mg_0 rfl 2 (by decide) (X.wd 1 rfl) (v := .ref (ad 2)) rfl dX5_rule_11 ?_
    refine ww_iload_n X dX5_rule_14 1 rfl ?_
    obtain ⟨h4, hp⟩ := hp
    refine ww_iald X 2 1 mg_2 rfl (v := (gA u1 1 a1)) h4 rfl dX5_rule_15 ?_
    refine ww_goto X (tgt := 22) dX5_rule_16 (by decide) ?_
    exact ww_sub (lv' := [(0, .ref (ad 0))]) [0] rfl (wX5_rule_b22 X  (gA u1 1 a1) u1 hp)
set_option maxHeartbeats 4000000 in
set_option maxRecDepth 100000 in
theorem wX5_jumper_b18 {p : Program} {l : Launch} {e : Env} {s : State} {m : MethodId} {args : Array Value} {below : List Frame} {meth : Method} {c : Code} {D : va_G} {A : Nat → Prop} {ad : Nat → Nat} {cB cI cZ : ClassId} {post : Int32 → Sg → Prop}  (X : Cx p s m args meth c cX5_jumper 2 (some .int) RX5 wsX5_jumper D (tyL cB cI cZ) A)  (z : Sg) (hp : pX5_jumper_b18  post  z) : WW p l e rmX5_jumper s m args below meth c 2 D A (mW ad cB cI cZ) (QI below args s D (tyL cB cI cZ) (mW ad cB cI cZ) A post) z 18 [(0, .ref (ad 0))] [] := by
  unfold pX5_jumper_b18 at hp
  refine ww_sipush X (v := (-10000)) dX5_jumper_18 (by decide) ?_
  exact ww_iret X hp dX5_jumper_21
set_option maxHeartbeats 4000000 in
set_option maxRecDepth 100000 in
theorem kX5_jumper (l : Launch) (D : va_G) (ad : Nat → Nat) (cB cI cZ : ClassId) (a1 : Int32) (z : Sg) (post : Int32 → Sg → Prop) (hp : pX5_jumper a1 z post) : Ci l D (tyL cB cI cZ) (mW ad cB cI cZ) yX5_jumper wsX5_jumper rmX5_jumper [.ref (ad 0), .int a1] z post := by
  refine Ci.of (cc := cX5_jumper) (maxL := 2) (ret := (some .int)) (by decide) rfl (Nat.le_of_ble_eq_true rfl) ?_
  intro p e s m args below meth c A X
  have X : Cx p s m args meth c cX5_jumper 2 (some .int) RX5 wsX5_jumper D (tyL cB cI cZ) A := X
  show WW p l e rmX5_jumper s m args below meth c 2 D A (mW ad cB cI cZ) (QI below args s D (tyL cB cI cZ) (mW ad cB cI cZ) A post) z 0 [(0, .ref (ad 0)), (1, .int a1)] []
  unfold pX5_jumper at hp
  refine ww_aload_n X dX5_jumper_0 0 rfl ?_
  refine ww_get X in_X5_jumper_X5 0 mg_0 rfl 4 (by decide) (X.wd 1 rfl) (v := .int (z.1 1)) rfl dX5_jumper_1 ?_
  refine ww_bipush X (v := 24) dX5_jumper_4 (by decide) ?_
  refine ww_icmp_eq X (tgt := 18) dX5_jumper_6 (by decide) (fun h1 => ?_) (fun h1 => ?_)
  · have hp := hp.1 h1
    exact ww_sub (lv' := [(0, .ref (ad 0))]) [0] rfl (wX5_jumper_b18 X   z hp)
  · have hp := hp.2 h1
    refine ww_iload_n X dX5_jumper_9 1 rfl ?_
    refine ww_iconst X (v := 0) dX5_jumper_10 (by decide) ?_
    refine ww_iconst X (v := 5) dX5_jumper_11 (by decide) ?_
    refine ww_callS_i X (As := [.int a1, .int 0, .int 5]) (rest := []) (kX5_lies l D ad cB cI cZ a1 0 5 z _ hp) (va_cwS 3 X.hts gX5_jumper_X5_lies rfl rfl rfl hn_X5_lies ⟨Nat.le_of_ble_eq_true rfl, Nat.le_of_ble_eq_true rfl⟩) rfl rfl (Nat.le_of_ble_eq_true rfl) dX5_jumper_12 (fun r3 u2 hp => ?_)
    refine ww_if_ne X (tgt := 22) dX5_jumper_15 (by decide) (fun h4 => ?_) (fun h4 => ?_)
    · have hp := hp.1 h4
      refine ww_aload_n X dX5_jumper_22 0 rfl ?_
      refine ww_get X in_X5_jumper_X5 0 mg_0 rfl 8 (by decide) (X.wd 2 rfl) (v := .ref (ad 4)) rfl dX5_jumper_23 ?_
      refine ww_aload_n X dX5_jumper_26 0 rfl ?_
      refine ww_get X in_X5_jumper_X5 0 mg_0 rfl 4 (by decide) (X.wd 1 rfl) (v := .int (u2.1 1)) rfl dX5_jumper_27 ?_
      refine ww_iload_n X dX5_jumper_30 1 rfl ?_
      obtain ⟨h5, hp⟩ := hp
      refine ww_iast X 4 1 mg_4 rfl (sg' := (sA u2 3 (u2.1 1) a1)) h5 ma_4 dX5_jumper_31 ?_
      refine ww_aload_n X dX5_jumper_32 0 rfl ?_
      refine ww_dup X dX5_jumper_33 rfl ?_
      refine ww_get X in_X5_jumper_X5 0 mg_0 rfl 4 (by decide) (X.wd 1 rfl) (v := .int (u2.1 1)) rfl dX5_jumper_34 ?_
      refine ww_iconst X (v := 1) dX5_jumper_37 (by decide) ?_
      refine ww_iadd X dX5_jumper_38 ?_
      refine ww_put X in_X5_jumper_X5 tyX5 tyX5_ok nmX5 0 mg_0 rfl 4 (by decide) (X.wd 1 rfl) rfl pd_X5_4 (Nat.le_of_ble_eq_true rfl) (sg' := (sS (sA u2 3 (u2.1 1) a1) 1 ((u2.1 1) + 1))) ms_1 dX5_jumper_39 ?_
      refine ww_aload_n X dX5_jumper_42 0 rfl ?_
      refine ww_get X in_X5_jumper_X5 0 mg_0 rfl 4 (by decide) (X.wd 1 rfl) (v := .int ((u2.1 1) + 1)) rfl dX5_jumper_43 ?_
      refine ww_iconst X (v := 1) dX5_jumper_46 (by decide) ?_
      refine ww_isub X dX5_jumper_47 ?_
      exact ww_iret X hp dX5_jumper_48
    · have hp := hp.2 h4
      exact ww_sub (lv' := [(0, .ref (ad 0))]) [0] rfl (wX5_jumper_b18 X   u2 hp)
set_option maxHeartbeats 4000000 in
set_option maxRecDepth 100000 in
theorem kX5_isJumper (l : Launch) (D : va_G) (ad : Nat → Nat) (cB cI cZ : ClassId) (a1 : Int32) (z : Sg) (post : Int32 → Sg → Prop) (hp : pX5_isJumper a1 z post) : Ci l D (tyL cB cI cZ) (mW ad cB cI cZ) yX5_isJumper wsX5_isJumper rmX5_isJumper [.ref (ad 0), .int a1] z post := by
  refine Ci.of (cc := cX5_isJumper) (maxL := 2) (ret := (some .boolean)) (by decide) rfl (Nat.le_of_ble_eq_true rfl) ?_
  intro p e s m args below meth c A X
  have X : Cx p s m args meth c cX5_isJumper 2 (some .boolean) RX5 wsX5_isJumper D (tyL cB cI cZ) A := X
  show WW p l e rmX5_isJumper s m args below meth c 2 D A (mW ad cB cI cZ) (QI below args s D (tyL cB cI cZ) (mW ad cB cI cZ) A post) z 0 [(0, .ref (ad 0)), (1, .int a1)] []
  unfold pX5_isJumper at hp
  refine ww_iload_n X dX5_isJumper_0 1 rfl ?_
  refine ww_iconst X (v := 0) dX5_isJumper_1 (by decide) ?_
  refine ww_aload_n X dX5_isJumper_2 0 rfl ?_
  refine ww_get X in_X5_isJumper_X5 0 mg_0 rfl 4 (by decide) (X.wd 1 rfl) (v := .int (z.1 1)) rfl dX5_isJumper_3 ?_
  refine ww_iconst X (v := 1) dX5_isJumper_6 (by decide) ?_
  refine ww_isub X dX5_isJumper_7 ?_
  refine ww_callS_i X (As := [.int a1, .int 0, .int ((z.1 1) - 1)]) (rest := []) (kX5_lies l D ad cB cI cZ a1 0 ((z.1 1) - 1) z _ hp) (va_cwS 3 X.hts gX5_isJumper_X5_lies rfl rfl rfl hn_X5_lies ⟨Nat.le_of_ble_eq_true rfl, Nat.le_of_ble_eq_true rfl⟩) rfl rfl (Nat.le_of_ble_eq_true rfl) dX5_isJumper_8 (fun r2 u1 hp => ?_)
  exact ww_zret X hp.1 hp.2 dX5_isJumper_11
set_option maxHeartbeats 4000000 in
set_option maxRecDepth 100000 in
theorem wX5_sensor_b19 {p : Program} {l : Launch} {e : Env} {s : State} {m : MethodId} {args : Array Value} {below : List Frame} {meth : Method} {c : Code} {D : va_G} {A : Nat → Prop} {ad : Nat → Nat} {cB cI cZ : ClassId} {post : Int32 → Sg → Prop}  (X : Cx p s m args meth c cX5_sensor 3 (some .boolean) RX5 wsX5_sensor D (tyL cB cI cZ) A)  (z : Sg) (hp : pX5_sensor_b19  post  z) : WW p l e rmX5_sensor s m args below meth c 3 D A (mW ad cB cI cZ) (QI below args s D (tyL cB cI cZ) (mW ad cB cI cZ) A post) z 19 [(0, .ref (ad 0))] [] := by
  unfold pX5_sensor_b19 at hp
  refine ww_iconst X (v := 0) dX5_sensor_19 (by decide) ?_
  exact ww_zret X (Or.inl rfl) hp dX5_sensor_20
set_option maxHeartbeats 4000000 in
set_option maxRecDepth 100000 in
theorem kX5_sensor (l : Launch) (D : va_G) (ad : Nat → Nat) (cB cI cZ : ClassId) (a1 a2 : Int32) (z : Sg) (post : Int32 → Sg → Prop) (hp : pX5_sensor a1 a2 z post) : Ci l D (tyL cB cI cZ) (mW ad cB cI cZ) yX5_sensor wsX5_sensor rmX5_sensor [.ref (ad 0), .int a1, .int a2] z post := by
  refine Ci.of (cc := cX5_sensor) (maxL := 3) (ret := (some .boolean)) (by decide) rfl (Nat.le_of_ble_eq_true rfl) ?_
  intro p e s m args below meth c A X
  have X : Cx p s m args meth c cX5_sensor 3 (some .boolean) RX5 wsX5_sensor D (tyL cB cI cZ) A := X
  show WW p l e rmX5_sensor s m args below meth c 3 D A (mW ad cB cI cZ) (QI below args s D (tyL cB cI cZ) (mW ad cB cI cZ) A post) z 0 [(0, .ref (ad 0)), (1, .int a1), (2, .int a2)] []
  unfold pX5_sensor at hp
  refine ww_iload_n X dX5_sensor_0 1 rfl ?_
  refine ww_iconst X (v := 0) dX5_sensor_1 (by decide) ?_
  refine ww_iconst X (v := 4) dX5_sensor_2 (by decide) ?_
  refine ww_callS_i X (As := [.int a1, .int 0, .int 4]) (rest := []) (kX5_lies l D ad cB cI cZ a1 0 4 z _ hp) (va_cwS 3 X.hts gX5_sensor_X5_lies rfl rfl rfl hn_X5_lies ⟨Nat.le_of_ble_eq_true rfl, Nat.le_of_ble_eq_true rfl⟩) rfl rfl (Nat.le_of_ble_eq_true rfl) dX5_sensor_3 (fun r2 u1 hp => ?_)
  refine ww_if_eq X (tgt := 19) dX5_sensor_6 (by decide) (fun h3 => ?_) (fun h3 => ?_)
  · have hp := hp.1 h3
    exact ww_sub (lv' := [(0, .ref (ad 0))]) [0] rfl (wX5_sensor_b19 X   u1 hp)
  · have hp := hp.2 h3
    refine ww_iload_n X dX5_sensor_9 2 rfl ?_
    refine ww_iconst X (v := 0) dX5_sensor_10 (by decide) ?_
    refine ww_bipush X (v := 9) dX5_sensor_11 (by decide) ?_
    refine ww_callS_i X (As := [.int a2, .int 0, .int 9]) (rest := []) (kX5_lies l D ad cB cI cZ a2 0 9 u1 _ hp) (va_cwS 3 X.hts gX5_sensor_X5_lies rfl rfl rfl hn_X5_lies ⟨Nat.le_of_ble_eq_true rfl, Nat.le_of_ble_eq_true rfl⟩) rfl rfl (Nat.le_of_ble_eq_true rfl) dX5_sensor_13 (fun r5 u4 hp => ?_)
    refine ww_if_ne X (tgt := 21) dX5_sensor_16 (by decide) (fun h6 => ?_) (fun h6 => ?_)
    · have hp := hp.1 h6
      refine ww_aload_n X dX5_sensor_21 0 rfl ?_
      refine ww_get X in_X5_sensor_X5 0 mg_0 rfl 10 (by decide) (X.wd 1 rfl) (v := .ref (ad 6)) rfl dX5_sensor_22 ?_
      refine ww_iload_n X dX5_sensor_25 1 rfl ?_
      refine ww_iload_n X dX5_sensor_26 2 rfl ?_
      obtain ⟨h7, hp⟩ := hp
      refine ww_iast X 6 1 mg_6 rfl (sg' := (sA u4 5 a1 a2)) h7 ma_6 dX5_sensor_27 ?_
      refine ww_iconst X (v := 1) dX5_sensor_28 (by decide) ?_
      exact ww_zret X (Or.inr rfl) hp dX5_sensor_29
    · have hp := hp.2 h6
      exact ww_sub (lv' := [(0, .ref (ad 0))]) [0] rfl (wX5_sensor_b19 X   u4 hp)
set_option maxHeartbeats 4000000 in
set_option maxRecDepth 100000 in
theorem kX5_base (l : Launch) (D : va_G) (ad : Nat → Nat) (cB cI cZ : ClassId) (a1 : Int32) (z : Sg) (post : Int32 → Sg → Prop) (hp : pX5_base a1 z post) : Ci l D (tyL cB cI cZ) (mW ad cB cI cZ) yX5_base wsX5_base rmX5_base [.ref (ad 0), .int a1] z post := by
  refine Ci.of (cc := cX5_base) (maxL := 2) (ret := (some .boolean)) (by decide) rfl (Nat.le_of_ble_eq_true rfl) ?_
  intro p e s m args below meth c A X
  have X : Cx p s m args meth c cX5_base 2 (some .boolean) RX5 wsX5_base D (tyL cB cI cZ) A := X
  show WW p l e rmX5_base s m args below meth c 2 D A (mW ad cB cI cZ) (QI below args s D (tyL cB cI cZ) (mW ad cB cI cZ) A post) z 0 [(0, .ref (ad 0)), (1, .int a1)] []
  unfold pX5_base at hp
  refine ww_iload_n X dX5_base_0 1 rfl ?_
  refine ww_iconst X (v := 1) dX5_base_1 (by decide) ?_
  refine ww_bipush X (v := 50) dX5_base_2 (by decide) ?_
  refine ww_callS_i X (As := [.int a1, .int 1, .int 50]) (rest := []) (kX5_lies l D ad cB cI cZ a1 1 50 z _ hp) (va_cwS 3 X.hts gX5_base_X5_lies rfl rfl rfl hn_X5_lies ⟨Nat.le_of_ble_eq_true rfl, Nat.le_of_ble_eq_true rfl⟩) rfl rfl (Nat.le_of_ble_eq_true rfl) dX5_base_4 (fun r2 u1 hp => ?_)
  refine ww_if_ne X (tgt := 12) dX5_base_7 (by decide) (fun h3 => ?_) (fun h3 => ?_)
  · have hp := hp.1 h3
    refine ww_aload_n X dX5_base_12 0 rfl ?_
    refine ww_iload_n X dX5_base_13 1 rfl ?_
    refine ww_put X in_X5_base_X5 tyX5 tyX5_ok nmX5 0 mg_0 rfl 7 (by decide) (X.wd 1 rfl) rfl pd_X5_7 (Nat.le_of_ble_eq_true rfl) (sg' := (sS u1 4 a1)) ms_4 dX5_base_14 ?_
    refine ww_iconst X (v := 1) dX5_base_17 (by decide) ?_
    exact ww_zret X (Or.inr rfl) hp dX5_base_18
  · have hp := hp.2 h3
    refine ww_iconst X (v := 0) dX5_base_10 (by decide) ?_
    exact ww_zret X (Or.inl rfl) hp dX5_base_11
set_option maxHeartbeats 4000000 in
set_option maxRecDepth 100000 in
theorem wX5_isJump_b24 {p : Program} {l : Launch} {e : Env} {s : State} {m : MethodId} {args : Array Value} {below : List Frame} {meth : Method} {c : Code} {D : va_G} {A : Nat → Prop} {ad : Nat → Nat} {cB cI cZ : ClassId} {post : Int32 → Sg → Prop}  (X : Cx p s m args meth c cX5_isJump 2 (some .boolean) RX5 wsX5_isJump D (tyL cB cI cZ) A)  (y0 : Int32) (z : Sg) (hp : pX5_isJump_b24  post y0 z) : WW p l e rmX5_isJump s m args below meth c 2 D A (mW ad cB cI cZ) (QI below args s D (tyL cB cI cZ) (mW ad cB cI cZ) A post) z 24 [(0, .ref (ad 0))] [.int y0] := by
  unfold pX5_isJump_b24 at hp
  exact ww_zret X hp.1 hp.2 dX5_isJump_24
set_option maxHeartbeats 4000000 in
set_option maxRecDepth 100000 in
theorem wX5_isJump_b19 {p : Program} {l : Launch} {e : Env} {s : State} {m : MethodId} {args : Array Value} {below : List Frame} {meth : Method} {c : Code} {D : va_G} {A : Nat → Prop} {ad : Nat → Nat} {cB cI cZ : ClassId} {post : Int32 → Sg → Prop}  (X : Cx p s m args meth c cX5_isJump 2 (some .boolean) RX5 wsX5_isJump D (tyL cB cI cZ) A)  (z : Sg) (hp : pX5_isJump_b19  post  z) : WW p l e rmX5_isJump s m args below meth c 2 D A (mW ad cB cI cZ) (QI below args s D (tyL cB cI cZ) (mW ad cB cI cZ) A post) z 19 [(0, .ref (ad 0))] [] := by
  unfold pX5_isJump_b19 at hp
  refine ww_iconst X (v := 1) dX5_isJump_19 (by decide) ?_
  refine ww_goto X (tgt := 24) dX5_isJump_20 (by decide) ?_
  exact wX5_isJump_b24 X  1 z hp
set_option maxHeartbeats 4000000 in
set_option maxRecDepth 100000 in
theorem kX5_isJump (l : Launch) (D : va_G) (ad : Nat → Nat) (cB cI cZ : ClassId) (a1 : Int32) (z : Sg) (post : Int32 → Sg → Prop) (hp : pX5_isJump a1 z post) : Ci l D (tyL cB cI cZ) (mW ad cB cI cZ) yX5_isJump wsX5_isJump rmX5_isJump [.ref (ad 0), .int a1] z post := by
  refine Ci.of (cc := cX5_isJump) (maxL := 2) (ret := (some .boolean)) (by decide) rfl (Nat.le_of_ble_eq_true rfl) ?_
  intro p e s m args below meth c A X
  have X : Cx p s m args meth c cX5_isJump 2 (some .boolean) RX5 wsX5_isJump D (tyL cB cI cZ) A := X
  show WW p l e rmX5_isJump s m args below meth c 2 D A (mW ad cB cI cZ) (QI below args s D (tyL cB cI cZ) (mW ad cB cI cZ) A post) z 0 [(0, .ref (ad 0)), (1, .int a1)] []
  unfold pX5_isJump at hp
  refine ww_aload_n X dX5_isJump_0 0 rfl ?_
  refine ww_iload_n X dX5_isJump_1 1 rfl ?_
  refine ww_callV_i X (As := [.int a1]) (rest := []) (kX5_isJumper l D ad cB cI cZ a1 z _ hp) (cwV 1 X.hts gX5_isJump_X5_isJumper rfl rfl rfl hd_X5_isJumper ⟨Nat.le_of_ble_eq_true rfl, Nat.le_of_ble_eq_true rfl⟩) 0 5 mg_0 rfl rfl rfl rfl (Nat.le_of_ble_eq_true rfl) dX5_isJump_2 (fun r2 u1 hp => ?_)
  refine ww_if_ne X (tgt := 19) dX5_isJump_5 (by decide) (fun h3 => ?_) (fun h3 => ?_)
  · have hp := hp.1 h3
    exact ww_sub (lv' := [(0, .ref (ad 0))]) [0] rfl (wX5_isJump_b19 X   u1 hp)
  · have hp := hp.2 h3
    refine ww_aload_n X dX5_isJump_8 0 rfl ?_
    refine ww_iload_n X dX5_isJump_9 1 rfl ?_
    refine ww_bipush X (v := 32) dX5_isJump_10 (by decide) ?_
    refine ww_isub X dX5_isJump_12 ?_
    refine ww_callV_i X (As := [.int (a1 - 32)]) (rest := []) (kX5_isJumper l D ad cB cI cZ (a1 - 32) u1 _ hp) (cwV 1 X.hts gX5_isJump_X5_isJumper rfl rfl rfl hd_X5_isJumper ⟨Nat.le_of_ble_eq_true rfl, Nat.le_of_ble_eq_true rfl⟩) 0 5 mg_0 rfl rfl rfl rfl (Nat.le_of_ble_eq_true rfl) dX5_isJump_13 (fun r5 u4 hp => ?_)
    refine ww_if_eq X (tgt := 23) dX5_isJump_16 (by decide) (fun h6 => ?_) (fun h6 => ?_)
    · have hp := hp.1 h6
      refine ww_iconst X (v := 0) dX5_isJump_23 (by decide) ?_
      exact ww_sub (lv' := [(0, .ref (ad 0))]) [0] rfl (wX5_isJump_b24 X  0 u4 hp)
    · have hp := hp.2 h6
      exact ww_sub (lv' := [(0, .ref (ad 0))]) [0] rfl (wX5_isJump_b19 X   u4 hp)
set_option maxHeartbeats 4000000 in
set_option maxRecDepth 100000 in
theorem kX5_tells (l : Launch) (D : va_G) (ad : Nat → Nat) (cB cI cZ : ClassId) (a1 a2 a3 a4 a5 a6 a7 : Int32) (z : Sg) (post : Int32 → Sg → Prop) (hp : pX5_tells a1 a2 a3 a4 a5 a6 a7 z post) : Ci l D (tyL cB cI cZ) (mW ad cB cI cZ) yX5_tells wsX5_tells rmX5_tells [.ref (ad 0), .int a1, .int a2, .int a3, .int a4, .int a5, .int a6, .int a7] z post := by
  refine Ci.of (cc := cX5_tells) (maxL := 8) (ret := (some .int)) (by decide) rfl (Nat.le_of_ble_eq_true rfl) ?_
  intro p e s m args below meth c A X
  have X : Cx p s m args meth c cX5_tells 8 (some .int) RX5 wsX5_tells D (tyL cB cI cZ) A := X
  show WW p l e rmX5_tells s m args below meth c 8 D A (mW ad cB cI cZ) (QI below args s D (tyL cB cI cZ) (mW ad cB cI cZ) A post) z 0 [(0, .ref (ad 0)), (1, .int a1), (2, .int a2), (3, .int a3), (4, .int a4), (5, .int a5), (6, .int a6), (7, .int a7)] []
  unfold pX5_tells at hp
  refine ww_aload_n X dX5_tells_0 0 rfl ?_
  refine ww_get X in_X5_tells_X5 0 mg_0 rfl 11 (by decide) (X.wd 1 rfl) (v := .ref (ad 7)) rfl dX5_tells_1 ?_
  refine ww_aload_n X dX5_tells_4 0 rfl ?_
  refine ww_get X in_X5_tells_X5 0 mg_0 rfl 5 (by decide) (X.wd 2 rfl) (v := .int (z.1 2)) rfl dX5_tells_5 ?_
  refine ww_iload_n X dX5_tells_8 1 rfl ?_
  obtain ⟨h1, hp⟩ := hp
  refine ww_iast X 7 1 mg_7 rfl (sg' := (sA z 6 (z.1 2) a1)) h1 ma_7 dX5_tells_9 ?_
  refine ww_aload_n X dX5_tells_10 0 rfl ?_
  refine ww_get X in_X5_tells_X5 0 mg_0 rfl 12 (by decide) (X.wd 3 rfl) (v := .ref (ad 8)) rfl dX5_tells_11 ?_
  refine ww_aload_n X dX5_tells_14 0 rfl ?_
  refine ww_get X in_X5_tells_X5 0 mg_0 rfl 5 (by decide) (X.wd 2 rfl) (v := .int (z.1 2)) rfl dX5_tells_15 ?_
  refine ww_iload_n X dX5_tells_18 2 rfl ?_
  obtain ⟨h2, hp⟩ := hp
  refine ww_iast X 8 1 mg_8 rfl (sg' := (sA (sA z 6 (z.1 2) a1) 7 (z.1 2) a2)) h2 ma_8 dX5_tells_19 ?_
  refine ww_aload_n X dX5_tells_20 0 rfl ?_
  refine ww_get X in_X5_tells_X5 0 mg_0 rfl 13 (by decide) (X.wd 4 rfl) (v := .ref (ad 9)) rfl dX5_tells_21 ?_
  refine ww_iconst X (v := 5) dX5_tells_24 (by decide) ?_
  refine ww_aload_n X dX5_tells_25 0 rfl ?_
  refine ww_get X in_X5_tells_X5 0 mg_0 rfl 5 (by decide) (X.wd 2 rfl) (v := .int (z.1 2)) rfl dX5_tells_26 ?_
  refine ww_imul X dX5_tells_29 ?_
  refine ww_iload_n X dX5_tells_30 3 rfl ?_
  refine ww_zz (fun w4 hw4 => ?_)
  have hp := hp w4 hw4
  obtain ⟨h3, hp⟩ := hp
  refine ww_iast X 9 1 mg_9 rfl (sg' := (sA w4 8 (5 * (z.1 2)) a3)) h3 ma_9 dX5_tells_31 ?_
  refine ww_aload_n X dX5_tells_32 0 rfl ?_
  refine ww_get X in_X5_tells_X5 0 mg_0 rfl 13 (by decide) (X.wd 4 rfl) (v := .ref (ad 9)) rfl dX5_tells_33 ?_
  refine ww_iconst X (v := 5) dX5_tells_36 (by decide) ?_
  refine ww_aload_n X dX5_tells_37 0 rfl ?_
  refine ww_get X in_X5_tells_X5 0 mg_0 rfl 5 (by decide) (X.wd 2 rfl) (v := .int (w4.1 2)) rfl dX5_tells_38 ?_
  refine ww_imul X dX5_tells_41 ?_
  refine ww_iconst X (v := 1) dX5_tells_42 (by decide) ?_
  refine ww_iadd X dX5_tells_43 ?_
  refine ww_iload X dX5_tells_44 4 rfl ?_
  obtain ⟨h5, hp⟩ := hp
  refine ww_iast X 9 1 mg_9 rfl (sg' := (sA (sA w4 8 (5 * (z.1 2)) a3) 8 ((5 * (w4.1 2)) + 1) a4)) h5 ma_9 dX5_tells_46 ?_
  refine ww_aload_n X dX5_tells_47 0 rfl ?_
  refine ww_get X in_X5_tells_X5 0 mg_0 rfl 13 (by decide) (X.wd 4 rfl) (v := .ref (ad 9)) rfl dX5_tells_48 ?_
  refine ww_iconst X (v := 5) dX5_tells_51 (by decide) ?_
  refine ww_aload_n X dX5_tells_52 0 rfl ?_
  refine ww_get X in_X5_tells_X5 0 mg_0 rfl 5 (by decide) (X.wd 2 rfl) (v := .int (w4.1 2)) rfl dX5_tells_53 ?_
  refine ww_imul X dX5_tells_56 ?_
  refine ww_iconst X (v := 2) dX5_tells_57 (by decide) ?_
  refine ww_iadd X dX5_tells_58 ?_
  refine ww_iload X dX5_tells_59 5 rfl ?_
  refine ww_zz (fun w7 hw7 => ?_)
  have hp := hp w7 hw7
  obtain ⟨h6, hp⟩ := hp
  refine ww_iast X 9 1 mg_9 rfl (sg' := (sA w7 8 ((5 * (w4.1 2)) + 2) a5)) h6 ma_9 dX5_tells_61 ?_
  refine ww_aload_n X dX5_tells_62 0 rfl ?_
  refine ww_get X in_X5_tells_X5 0 mg_0 rfl 13 (by decide) (X.wd 4 rfl) (v := .ref (ad 9)) rfl dX5_tells_63 ?_
  refine ww_iconst X (v := 5) dX5_tells_66 (by decide) ?_
  refine ww_aload_n X dX5_tells_67 0 rfl ?_
  refine ww_get X in_X5_tells_X5 0 mg_0 rfl 5 (by decide) (X.wd 2 rfl) (v := .int (w7.1 2)) rfl dX5_tells_68 ?_
  refine ww_imul X dX5_tells_71 ?_
  refine ww_iconst X (v := 3) dX5_tells_72 (by decide) ?_
  refine ww_iadd X dX5_tells_73 ?_
  refine ww_iload X dX5_tells_74 6 rfl ?_
  obtain ⟨h8, hp⟩ := hp
  refine ww_iast X 9 1 mg_9 rfl (sg' := (sA (sA w7 8 ((5 * (w4.1 2)) + 2) a5) 8 ((5 * (w7.1 2)) + 3) a6)) h8 ma_9 dX5_tells_76 ?_
  refine ww_aload_n X dX5_tells_77 0 rfl ?_
  refine ww_get X in_X5_tells_X5 0 mg_0 rfl 13 (by decide) (X.wd 4 rfl) (v := .ref (ad 9)) rfl dX5_tells_78 ?_
  refine ww_iconst X (v := 5) dX5_tells_81 (by decide) ?_
  refine ww_aload_n X dX5_tells_82 0 rfl ?_
  refine ww_get X in_X5_tells_X5 0 mg_0 rfl 5 (by decide) (X.wd 2 rfl) (v := .int (w7.1 2)) rfl dX5_tells_83 ?_
  refine ww_imul X dX5_tells_86 ?_
  refine ww_iconst X (v := 4) dX5_tells_87 (by decide) ?_
  refine ww_iadd X dX5_tells_88 ?_
  refine ww_iload X dX5_tells_89 7 rfl ?_
  refine ww_zz (fun w10 hw10 => ?_)
  have hp := hp w10 hw10
  obtain ⟨h9, hp⟩ := hp
  refine ww_iast X 9 1 mg_9 rfl (sg' := (sA w10 8 ((5 * (w7.1 2)) + 4) a7)) h9 ma_9 dX5_tells_91 ?_
  refine ww_aload_n X dX5_tells_92 0 rfl ?_
  refine ww_dup X dX5_tells_93 rfl ?_
  refine ww_get X in_X5_tells_X5 0 mg_0 rfl 5 (by decide) (X.wd 2 rfl) (v := .int (w10.1 2)) rfl dX5_tells_94 ?_
  refine ww_iconst X (v := 1) dX5_tells_97 (by decide) ?_
  refine ww_iadd X dX5_tells_98 ?_
  refine ww_put X in_X5_tells_X5 tyX5 tyX5_ok nmX5 0 mg_0 rfl 5 (by decide) (X.wd 2 rfl) rfl pd_X5_5 (Nat.le_of_ble_eq_true rfl) (sg' := (sS (sA w10 8 ((5 * (w7.1 2)) + 4) a7) 2 ((w10.1 2) + 1))) ms_2 dX5_tells_99 ?_
  refine ww_aload_n X dX5_tells_102 0 rfl ?_
  refine ww_get X in_X5_tells_X5 0 mg_0 rfl 5 (by decide) (X.wd 2 rfl) (v := .int ((w10.1 2) + 1)) rfl dX5_tells_103 ?_
  refine ww_iconst X (v := 1) dX5_tells_106 (by decide) ?_
  refine ww_isub X dX5_tells_107 ?_
  exact ww_iret X hp dX5_tells_108
set_option maxHeartbeats 4000000 in
set_option maxRecDepth 100000 in
theorem wX5_reading_b74 {p : Program} {l : Launch} {e : Env} {s : State} {m : MethodId} {args : Array Value} {below : List Frame} {meth : Method} {c : Code} {D : va_G} {A : Nat → Prop} {ad : Nat → Nat} {cB cI cZ : ClassId} {post : Int32 → Sg → Prop}  (X : Cx p s m args meth c cX5_reading 6 (some .int) RX5 wsX5_reading D (tyL cB cI cZ) A)  (y0 y1 y2 y3 y4 : Int32) (z : Sg) (hp : pX5_reading_b74  post y0 y1 y2 y3 y4 z) : WW p l e rmX5_reading s m args below meth c 6 D A (mW ad cB cI cZ) (QI below args s D (tyL cB cI cZ) (mW ad cB cI cZ) A post) z 74 [(0, .ref (ad 0))] [.int y0, .int y1, .int y2, .int y3, .int y4, .ref (ad 0)] := by
  unfold pX5_reading_b74 at hp
  refine ww_iconst X (v := 0) dX5_reading_74 (by decide) ?_
  refine ww_iconst X (v := 0) dX5_reading_75 (by decide) ?_
  refine ww_callV_i X (As := [.int y4, .int y3, .int y2, .int y1, .int y0, .int 0, .int 0]) (rest := []) (kX5_tells l D ad cB cI cZ y4 y3 y2 y1 y0 0 0 z _ hp) (cwV 7 X.hts gX5_reading_X5_tells rfl rfl rfl hd_X5_tells ⟨Nat.le_of_ble_eq_true rfl, Nat.le_of_ble_eq_true rfl⟩) 0 5 mg_0 rfl rfl rfl rfl (Nat.le_of_ble_eq_true rfl) dX5_reading_76 (fun r2 u1 hp => ?_)
  exact ww_iret X hp dX5_reading_79
set_option maxHeartbeats 4000000 in
set_option maxRecDepth 100000 in
theorem wX5_reading_b49 {p : Program} {l : Launch} {e : Env} {s : State} {m : MethodId} {args : Array Value} {below : List Frame} {meth : Method} {c : Code} {D : va_G} {A : Nat → Prop} {ad : Nat → Nat} {cB cI cZ : ClassId} {post : Int32 → Sg → Prop}  (X : Cx p s m args meth c cX5_reading 6 (some .int) RX5 wsX5_reading D (tyL cB cI cZ) A)  (z : Sg) (hp : pX5_reading_b49  post  z) : WW p l e rmX5_reading s m args below meth c 6 D A (mW ad cB cI cZ) (QI below args s D (tyL cB cI cZ) (mW ad cB cI cZ) A post) z 49 [(0, .ref (ad 0))] [] := by
  unfold pX5_reading_b49 at hp
  refine ww_sipush X (v := (-10000)) dX5_reading_49 (by decide) ?_
  exact ww_iret X hp dX5_reading_52
set_option maxHeartbeats 4000000 in
set_option maxRecDepth 100000 in
theorem kX5_reading (l : Launch) (D : va_G) (ad : Nat → Nat) (cB cI cZ : ClassId) (a1 a2 a3 a4 a5 : Int32) (z : Sg) (post : Int32 → Sg → Prop) (hp : pX5_reading a1 a2 a3 a4 a5 z post) : Ci l D (tyL cB cI cZ) (mW ad cB cI cZ) yX5_reading wsX5_reading rmX5_reading [.ref (ad 0), .int a1, .int a2, .int a3, .int a4, .int a5] z post := by
  refine Ci.of (cc := cX5_reading) (maxL := 6) (ret := (some .int)) (by decide) rfl (Nat.le_of_ble_eq_true rfl) ?_
  intro p e s m args below meth c A X
  have X : Cx p s m args meth c cX5_reading 6 (some .int) RX5 wsX5_reading D (tyL cB cI cZ) A := X
  show WW p l e rmX5_reading s m args below meth c 6 D A (mW ad cB cI cZ) (QI below args s D (tyL cB cI cZ) (mW ad cB cI cZ) A post) z 0 [(0, .ref (ad 0)), (1, .int a1), (2, .int a2), (3, .int a3), (4, .int a4), (5, .int a5)] []
  unfold pX5_reading at hp
  refine ww_aload_n X dX5_reading_0 0 rfl ?_
  refine ww_iload_n X dX5_reading_1 1 rfl ?_
  refine ww_callV_i X (As := [.int a1]) (rest := []) (kX5_isJumper l D ad cB cI cZ a1 z _ hp) (cwV 1 X.hts gX5_reading_X5_isJumper rfl rfl rfl hd_X5_isJumper ⟨Nat.le_of_ble_eq_true rfl, Nat.le_of_ble_eq_true rfl⟩) 0 5 mg_0 rfl rfl rfl rfl (Nat.le_of_ble_eq_true rfl) dX5_reading_2 (fun r2 u1 hp => ?_)
  refine ww_if_eq X (tgt := 49) dX5_reading_5 (by decide) (fun h3 => ?_) (fun h3 => ?_)
  · have hp := hp.1 h3
    exact ww_sub (lv' := [(0, .ref (ad 0))]) [0] rfl (wX5_reading_b49 X   u1 hp)
  · have hp := hp.2 h3
    refine ww_iload_n X dX5_reading_8 2 rfl ?_
    refine ww_iconst X (v := 0) dX5_reading_9 (by decide) ?_
    refine ww_iconst X (v := 1) dX5_reading_10 (by decide) ?_
    refine ww_callS_i X (As := [.int a2, .int 0, .int 1]) (rest := []) (kX5_lies l D ad cB cI cZ a2 0 1 u1 _ hp) (va_cwS 3 X.hts gX5_reading_X5_lies rfl rfl rfl hn_X5_lies ⟨Nat.le_of_ble_eq_true rfl, Nat.le_of_ble_eq_true rfl⟩) rfl rfl (Nat.le_of_ble_eq_true rfl) dX5_reading_11 (fun r5 u4 hp => ?_)
    refine ww_if_eq X (tgt := 49) dX5_reading_14 (by decide) (fun h6 => ?_) (fun h6 => ?_)
    · have hp := hp.1 h6
      exact ww_sub (lv' := [(0, .ref (ad 0))]) [0] rfl (wX5_reading_b49 X   u4 hp)
    · have hp := hp.2 h6
      refine ww_iload_n X dX5_reading_17 3 rfl ?_
      refine ww_iconst X (v := 0) dX5_reading_18 (by decide) ?_
      refine ww_sipush X (v := 600) dX5_reading_19 (by decide) ?_
      refine ww_callS_i X (As := [.int a3, .int 0, .int 600]) (rest := []) (kX5_lies l D ad cB cI cZ a3 0 600 u4 _ hp) (va_cwS 3 X.hts gX5_reading_X5_lies rfl rfl rfl hn_X5_lies ⟨Nat.le_of_ble_eq_true rfl, Nat.le_of_ble_eq_true rfl⟩) rfl rfl (Nat.le_of_ble_eq_true rfl) dX5_reading_22 (fun r8 u7 hp => ?_)
      refine ww_if_eq X (tgt := 49) dX5_reading_25 (by decide) (fun h9 => ?_) (fun h9 => ?_)
      · have hp := hp.1 h9
        exact ww_sub (lv' := [(0, .ref (ad 0))]) [0] rfl (wX5_reading_b49 X   u7 hp)
      · have hp := hp.2 h9
        refine ww_iload X dX5_reading_28 4 rfl ?_
        refine ww_iconst X (v := 1) dX5_reading_30 (by decide) ?_
        refine ww_bipush X (v := 50) dX5_reading_31 (by decide) ?_
        refine ww_callS_i X (As := [.int a4, .int 1, .int 50]) (rest := []) (kX5_lies l D ad cB cI cZ a4 1 50 u7 _ hp) (va_cwS 3 X.hts gX5_reading_X5_lies rfl rfl rfl hn_X5_lies ⟨Nat.le_of_ble_eq_true rfl, Nat.le_of_ble_eq_true rfl⟩) rfl rfl (Nat.le_of_ble_eq_true rfl) dX5_reading_33 (fun r11 u10 hp => ?_)
        refine ww_if_eq X (tgt := 49) dX5_reading_36 (by decide) (fun h12 => ?_) (fun h12 => ?_)
        · have hp := hp.1 h12
          exact ww_sub (lv' := [(0, .ref (ad 0))]) [0] rfl (wX5_reading_b49 X   u10 hp)
        · have hp := hp.2 h12
          refine ww_aload_n X dX5_reading_39 0 rfl ?_
          refine ww_get X in_X5_reading_X5 0 mg_0 rfl 5 (by decide) (X.wd 1 rfl) (v := .int (u10.1 2)) rfl dX5_reading_40 ?_
          refine ww_sipush X (v := 200) dX5_reading_43 (by decide) ?_
          refine ww_icmp_ne X (tgt := 53) dX5_reading_46 (by decide) (fun h13 => ?_) (fun h13 => ?_)
          · have hp := hp.1 h13
            refine ww_aload_n X dX5_reading_53 0 rfl ?_
            refine ww_iconst X (v := 0) dX5_reading_54 (by decide) ?_
            refine ww_iload_n X dX5_reading_55 1 rfl ?_
            refine ww_bipush X (v := 32) dX5_reading_56 (by decide) ?_
            refine ww_iload_n X dX5_reading_58 2 rfl ?_
            refine ww_imul X dX5_reading_59 ?_
            refine ww_iadd X dX5_reading_60 ?_
            refine ww_iload_n X dX5_reading_61 3 rfl ?_
            refine ww_iload X dX5_reading_62 4 rfl ?_
            refine ww_iload X dX5_reading_64 5 rfl ?_
            refine ww_if_eq X (tgt := 73) dX5_reading_66 (by decide) (fun h14 => ?_) (fun h14 => ?_)
            · have hp := hp.1 h14
              refine ww_iconst X (v := 0) dX5_reading_73 (by decide) ?_
              exact ww_sub (lv' := [(0, .ref (ad 0))]) [0] rfl (wX5_reading_b74 X  0 a4 a3 (a1 + (32 * a2)) 0 u10 hp)
            · have hp := hp.2 h14
              refine ww_iconst X (v := 1) dX5_reading_69 (by decide) ?_
              refine ww_goto X (tgt := 74) dX5_reading_70 (by decide) ?_
              exact ww_sub (lv' := [(0, .ref (ad 0))]) [0] rfl (wX5_reading_b74 X  1 a4 a3 (a1 + (32 * a2)) 0 u10 hp)
          · have hp := hp.2 h13
            exact ww_sub (lv' := [(0, .ref (ad 0))]) [0] rfl (wX5_reading_b49 X   u10 hp)
set_option maxHeartbeats 4000000 in
set_option maxRecDepth 100000 in
theorem wX5_isWind_b25 {p : Program} {l : Launch} {e : Env} {s : State} {m : MethodId} {args : Array Value} {below : List Frame} {meth : Method} {c : Code} {D : va_G} {A : Nat → Prop} {ad : Nat → Nat} {cB cI cZ : ClassId} {post : Int32 → Sg → Prop}  (X : Cx p s m args meth c cX5_isWind 1 (some .boolean) RX5 wsX5_isWind D (tyL cB cI cZ) A)  (y0 : Int32) (z : Sg) (hp : pX5_isWind_b25  post y0 z) : WW p l e rmX5_isWind s m args below meth c 1 D A (mW ad cB cI cZ) (QI below args s D (tyL cB cI cZ) (mW ad cB cI cZ) A post) z 25 [] [.int y0] := by
  unfold pX5_isWind_b25 at hp
  exact ww_zret X hp.1 hp.2 dX5_isWind_25
set_option maxHeartbeats 4000000 in
set_option maxRecDepth 100000 in
theorem wX5_isWind_b20 {p : Program} {l : Launch} {e : Env} {s : State} {m : MethodId} {args : Array Value} {below : List Frame} {meth : Method} {c : Code} {D : va_G} {A : Nat → Prop} {ad : Nat → Nat} {cB cI cZ : ClassId} {post : Int32 → Sg → Prop}  (X : Cx p s m args meth c cX5_isWind 1 (some .boolean) RX5 wsX5_isWind D (tyL cB cI cZ) A)  (z : Sg) (hp : pX5_isWind_b20  post  z) : WW p l e rmX5_isWind s m args below meth c 1 D A (mW ad cB cI cZ) (QI below args s D (tyL cB cI cZ) (mW ad cB cI cZ) A post) z 20 [] [] := by
  unfold pX5_isWind_b20 at hp
  refine ww_iconst X (v := 1) dX5_isWind_20 (by decide) ?_
  refine ww_goto X (tgt := 25) dX5_isWind_21 (by decide) ?_
  exact wX5_isWind_b25 X  1 z hp
set_option maxHeartbeats 4000000 in
set_option maxRecDepth 100000 in
theorem kX5_isWind (l : Launch) (D : va_G) (ad : Nat → Nat) (cB cI cZ : ClassId) (a0 : Int32) (z : Sg) (post : Int32 → Sg → Prop) (hp : pX5_isWind a0 z post) : Ci l D (tyL cB cI cZ) (mW ad cB cI cZ) yX5_isWind wsX5_isWind rmX5_isWind [.int a0] z post := by
  refine Ci.of (cc := cX5_isWind) (maxL := 1) (ret := (some .boolean)) (by decide) rfl (Nat.le_of_ble_eq_true rfl) ?_
  intro p e s m args below meth c A X
  have X : Cx p s m args meth c cX5_isWind 1 (some .boolean) RX5 wsX5_isWind D (tyL cB cI cZ) A := X
  show WW p l e rmX5_isWind s m args below meth c 1 D A (mW ad cB cI cZ) (QI below args s D (tyL cB cI cZ) (mW ad cB cI cZ) A post) z 0 [(0, .int a0)] []
  unfold pX5_isWind at hp
  refine ww_iload_n X dX5_isWind_0 0 rfl ?_
  refine ww_sipush X (v := (-10000)) dX5_isWind_1 (by decide) ?_
  refine ww_icmp_eq X (tgt := 20) dX5_isWind_4 (by decide) (fun h1 => ?_) (fun h1 => ?_)
  · have hp := hp.1 h1
    exact ww_sub (lv' := []) [] rfl (wX5_isWind_b20 X   z hp)
  · have hp := hp.2 h1
    refine ww_iload_n X dX5_isWind_7 0 rfl ?_
    refine ww_sipush X (v := (-999)) dX5_isWind_8 (by decide) ?_
    refine ww_sipush X (v := 999) dX5_isWind_11 (by decide) ?_
    refine ww_callS_i X (As := [.int a0, .int (-999), .int 999]) (rest := []) (kX5_lies l D ad cB cI cZ a0 (-999) 999 z _ hp) (va_cwS 3 X.hts gX5_isWind_X5_lies rfl rfl rfl hn_X5_lies ⟨Nat.le_of_ble_eq_true rfl, Nat.le_of_ble_eq_true rfl⟩) rfl rfl (Nat.le_of_ble_eq_true rfl) dX5_isWind_14 (fun r3 u2 hp => ?_)
    refine ww_if_eq X (tgt := 24) dX5_isWind_17 (by decide) (fun h4 => ?_) (fun h4 => ?_)
    · have hp := hp.1 h4
      refine ww_iconst X (v := 0) dX5_isWind_24 (by decide) ?_
      exact ww_sub (lv' := []) [] rfl (wX5_isWind_b25 X  0 u2 hp)
    · have hp := hp.2 h4
      exact ww_sub (lv' := []) [] rfl (wX5_isWind_b20 X   u2 hp)
set_option maxHeartbeats 4000000 in
set_option maxRecDepth 100000 in
theorem wX5_wind_b56 {p : Program} {l : Launch} {e : Env} {s : State} {m : MethodId} {args : Array Value} {below : List Frame} {meth : Method} {c : Code} {D : va_G} {A : Nat → Prop} {ad : Nat → Nat} {cB cI cZ : ClassId} {post : Int32 → Sg → Prop}  (X : Cx p s m args meth c cX5_wind 7 (some .int) RX5 wsX5_wind D (tyL cB cI cZ) A)  (z : Sg) (hp : pX5_wind_b56  post  z) : WW p l e rmX5_wind s m args below meth c 7 D A (mW ad cB cI cZ) (QI below args s D (tyL cB cI cZ) (mW ad cB cI cZ) A post) z 56 [(0, .ref (ad 0))] [] := by
  unfold pX5_wind_b56 at hp
  refine ww_sipush X (v := (-10000)) dX5_wind_56 (by decide) ?_
  exact ww_iret X hp dX5_wind_59
set_option maxHeartbeats 4000000 in
set_option maxRecDepth 100000 in
theorem kX5_wind (l : Launch) (D : va_G) (ad : Nat → Nat) (cB cI cZ : ClassId) (a1 a2 a3 a4 a5 a6 : Int32) (z : Sg) (post : Int32 → Sg → Prop) (hp : pX5_wind a1 a2 a3 a4 a5 a6 z post) : Ci l D (tyL cB cI cZ) (mW ad cB cI cZ) yX5_wind wsX5_wind rmX5_wind [.ref (ad 0), .int a1, .int a2, .int a3, .int a4, .int a5, .int a6] z post := by
  refine Ci.of (cc := cX5_wind) (maxL := 7) (ret := (some .int)) (by decide) rfl (Nat.le_of_ble_eq_true rfl) ?_
  intro p e s m args below meth c A X
  have X : Cx p s m args meth c cX5_wind 7 (some .int) RX5 wsX5_wind D (tyL cB cI cZ) A := X
  show WW p l e rmX5_wind s m args below meth c 7 D A (mW ad cB cI cZ) (QI below args s D (tyL cB cI cZ) (mW ad cB cI cZ) A post) z 0 [(0, .ref (ad 0)), (1, .int a1), (2, .int a2), (3, .int a3), (4, .int a4), (5, .int a5), (6, .int a6)] []
  unfold pX5_wind at hp
  refine ww_aload_n X dX5_wind_0 0 rfl ?_
  refine ww_iload_n X dX5_wind_1 1 rfl ?_
  refine ww_callV_i X (As := [.int a1]) (rest := []) (kX5_isJump l D ad cB cI cZ a1 z _ hp) (cwV 1 X.hts gX5_wind_X5_isJump rfl rfl rfl hd_X5_isJump ⟨Nat.le_of_ble_eq_true rfl, Nat.le_of_ble_eq_true rfl⟩) 0 5 mg_0 rfl rfl rfl rfl (Nat.le_of_ble_eq_true rfl) dX5_wind_2 (fun r2 u1 hp => ?_)
  refine ww_if_eq X (tgt := 56) dX5_wind_5 (by decide) (fun h3 => ?_) (fun h3 => ?_)
  · have hp := hp.1 h3
    exact ww_sub (lv' := [(0, .ref (ad 0))]) [0] rfl (wX5_wind_b56 X   u1 hp)
  · have hp := hp.2 h3
    refine ww_iload_n X dX5_wind_8 2 rfl ?_
    refine ww_callS_i X (As := [.int a2]) (rest := []) (kX5_isWind l D ad cB cI cZ a2 u1 _ hp) (va_cwS 1 X.hts gX5_wind_X5_isWind rfl rfl rfl hn_X5_isWind ⟨Nat.le_of_ble_eq_true rfl, Nat.le_of_ble_eq_true rfl⟩) rfl rfl (Nat.le_of_ble_eq_true rfl) dX5_wind_9 (fun r5 u4 hp => ?_)
    refine ww_if_eq X (tgt := 56) dX5_wind_12 (by decide) (fun h6 => ?_) (fun h6 => ?_)
    · have hp := hp.1 h6
      exact ww_sub (lv' := [(0, .ref (ad 0))]) [0] rfl (wX5_wind_b56 X   u4 hp)
    · have hp := hp.2 h6
      refine ww_iload_n X dX5_wind_15 3 rfl ?_
      refine ww_callS_i X (As := [.int a3]) (rest := []) (kX5_isWind l D ad cB cI cZ a3 u4 _ hp) (va_cwS 1 X.hts gX5_wind_X5_isWind rfl rfl rfl hn_X5_isWind ⟨Nat.le_of_ble_eq_true rfl, Nat.le_of_ble_eq_true rfl⟩) rfl rfl (Nat.le_of_ble_eq_true rfl) dX5_wind_16 (fun r8 u7 hp => ?_)
      refine ww_if_eq X (tgt := 56) dX5_wind_19 (by decide) (fun h9 => ?_) (fun h9 => ?_)
      · have hp := hp.1 h9
        exact ww_sub (lv' := [(0, .ref (ad 0))]) [0] rfl (wX5_wind_b56 X   u7 hp)
      · have hp := hp.2 h9
        refine ww_iload X dX5_wind_22 4 rfl ?_
        refine ww_callS_i X (As := [.int a4]) (rest := []) (kX5_isWind l D ad cB cI cZ a4 u7 _ hp) (va_cwS 1 X.hts gX5_wind_X5_isWind rfl rfl rfl hn_X5_isWind ⟨Nat.le_of_ble_eq_true rfl, Nat.le_of_ble_eq_true rfl⟩) rfl rfl (Nat.le_of_ble_eq_true rfl) dX5_wind_24 (fun r11 u10 hp => ?_)
        refine ww_if_eq X (tgt := 56) dX5_wind_27 (by decide) (fun h12 => ?_) (fun h12 => ?_)
        · have hp := hp.1 h12
          exact ww_sub (lv' := [(0, .ref (ad 0))]) [0] rfl (wX5_wind_b56 X   u10 hp)
        · have hp := hp.2 h12
          refine ww_iload X dX5_wind_30 5 rfl ?_
          refine ww_callS_i X (As := [.int a5]) (rest := []) (kX5_isWind l D ad cB cI cZ a5 u10 _ hp) (va_cwS 1 X.hts gX5_wind_X5_isWind rfl rfl rfl hn_X5_isWind ⟨Nat.le_of_ble_eq_true rfl, Nat.le_of_ble_eq_true rfl⟩) rfl rfl (Nat.le_of_ble_eq_true rfl) dX5_wind_32 (fun r14 u13 hp => ?_)
          refine ww_if_eq X (tgt := 56) dX5_wind_35 (by decide) (fun h15 => ?_) (fun h15 => ?_)
          · have hp := hp.1 h15
            exact ww_sub (lv' := [(0, .ref (ad 0))]) [0] rfl (wX5_wind_b56 X   u13 hp)
          · have hp := hp.2 h15
            refine ww_iload X dX5_wind_38 6 rfl ?_
            refine ww_callS_i X (As := [.int a6]) (rest := []) (kX5_isWind l D ad cB cI cZ a6 u13 _ hp) (va_cwS 1 X.hts gX5_wind_X5_isWind rfl rfl rfl hn_X5_isWind ⟨Nat.le_of_ble_eq_true rfl, Nat.le_of_ble_eq_true rfl⟩) rfl rfl (Nat.le_of_ble_eq_true rfl) dX5_wind_40 (fun r17 u16 hp => ?_)
            refine ww_if_eq X (tgt := 56) dX5_wind_43 (by decide) (fun h18 => ?_) (fun h18 => ?_)
            · have hp := hp.1 h18
              exact ww_sub (lv' := [(0, .ref (ad 0))]) [0] rfl (wX5_wind_b56 X   u16 hp)
            · have hp := hp.2 h18
              refine ww_aload_n X dX5_wind_46 0 rfl ?_
              refine ww_get X in_X5_wind_X5 0 mg_0 rfl 5 (by decide) (X.wd 1 rfl) (v := .int (u16.1 2)) rfl dX5_wind_47 ?_
              refine ww_sipush X (v := 200) dX5_wind_50 (by decide) ?_
              refine ww_icmp_ne X (tgt := 60) dX5_wind_53 (by decide) (fun h19 => ?_) (fun h19 => ?_)
              · have hp := hp.1 h19
                refine ww_aload_n X dX5_wind_60 0 rfl ?_
                refine ww_iconst X (v := 1) dX5_wind_61 (by decide) ?_
                refine ww_iload_n X dX5_wind_62 1 rfl ?_
                refine ww_iload_n X dX5_wind_63 2 rfl ?_
                refine ww_iload_n X dX5_wind_64 3 rfl ?_
                refine ww_iload X dX5_wind_65 4 rfl ?_
                refine ww_iload X dX5_wind_67 5 rfl ?_
                refine ww_iload X dX5_wind_69 6 rfl ?_
                refine ww_callV_i X (As := [.int 1, .int a1, .int a2, .int a3, .int a4, .int a5, .int a6]) (rest := []) (kX5_tells l D ad cB cI cZ 1 a1 a2 a3 a4 a5 a6 u16 _ hp) (cwV 7 X.hts gX5_wind_X5_tells rfl rfl rfl hd_X5_tells ⟨Nat.le_of_ble_eq_true rfl, Nat.le_of_ble_eq_true rfl⟩) 0 5 mg_0 rfl rfl rfl rfl (Nat.le_of_ble_eq_true rfl) dX5_wind_71 (fun r21 u20 hp => ?_)
                exact ww_iret X hp dX5_wind_74
              · have hp := hp.2 h19
                exact ww_sub (lv' := [(0, .ref (ad 0))]) [0] rfl (wX5_wind_b56 X   u16 hp)
set_option maxHeartbeats 4000000 in
set_option maxRecDepth 100000 in
theorem kX5_isMark (l : Launch) (D : va_G) (ad : Nat → Nat) (cB cI cZ : ClassId) (a0 : Int32) (z : Sg) (post : Int32 → Sg → Prop) (hp : pX5_isMark a0 z post) : Ci l D (tyL cB cI cZ) (mW ad cB cI cZ) yX5_isMark wsX5_isMark rmX5_isMark [.int a0] z post := by
  refine Ci.of (cc := cX5_isMark) (maxL := 1) (ret := (some .boolean)) (by decide) rfl (Nat.le_of_ble_eq_true rfl) ?_
  intro p e s m args below meth c A X
  have X : Cx p s m args meth c cX5_isMark 1 (some .boolean) RX5 wsX5_isMark D (tyL cB cI cZ) A := X
  show WW p l e rmX5_isMark s m args below meth c 1 D A (mW ad cB cI cZ) (QI below args s D (tyL cB cI cZ) (mW ad cB cI cZ) A post) z 0 [(0, .int a0)] []
  unfold pX5_isMark at hp
  refine ww_iload_n X dX5_isMark_0 0 rfl ?_
  refine ww_iconst X (v := 0) dX5_isMark_1 (by decide) ?_
  refine ww_bipush X (v := 40) dX5_isMark_2 (by decide) ?_
  refine ww_callS_i X (As := [.int a0, .int 0, .int 40]) (rest := []) (kX5_lies l D ad cB cI cZ a0 0 40 z _ hp) (va_cwS 3 X.hts gX5_isMark_X5_lies rfl rfl rfl hn_X5_lies ⟨Nat.le_of_ble_eq_true rfl, Nat.le_of_ble_eq_true rfl⟩) rfl rfl (Nat.le_of_ble_eq_true rfl) dX5_isMark_4 (fun r2 u1 hp => ?_)
  exact ww_zret X hp.1 hp.2 dX5_isMark_7
set_option maxHeartbeats 4000000 in
set_option maxRecDepth 100000 in
theorem wX5_style_b56 {p : Program} {l : Launch} {e : Env} {s : State} {m : MethodId} {args : Array Value} {below : List Frame} {meth : Method} {c : Code} {D : va_G} {A : Nat → Prop} {ad : Nat → Nat} {cB cI cZ : ClassId} {post : Int32 → Sg → Prop}  (X : Cx p s m args meth c cX5_style 7 (some .int) RX5 wsX5_style D (tyL cB cI cZ) A)  (z : Sg) (hp : pX5_style_b56  post  z) : WW p l e rmX5_style s m args below meth c 7 D A (mW ad cB cI cZ) (QI below args s D (tyL cB cI cZ) (mW ad cB cI cZ) A post) z 56 [(0, .ref (ad 0))] [] := by
  unfold pX5_style_b56 at hp
  refine ww_sipush X (v := (-10000)) dX5_style_56 (by decide) ?_
  exact ww_iret X hp dX5_style_59
set_option maxHeartbeats 4000000 in
set_option maxRecDepth 100000 in
theorem kX5_style (l : Launch) (D : va_G) (ad : Nat → Nat) (cB cI cZ : ClassId) (a1 a2 a3 a4 a5 a6 : Int32) (z : Sg) (post : Int32 → Sg → Prop) (hp : pX5_style a1 a2 a3 a4 a5 a6 z post) : Ci l D (tyL cB cI cZ) (mW ad cB cI cZ) yX5_style wsX5_style rmX5_style [.ref (ad 0), .int a1, .int a2, .int a3, .int a4, .int a5, .int a6] z post := by
  refine Ci.of (cc := cX5_style) (maxL := 7) (ret := (some .int)) (by decide) rfl (Nat.le_of_ble_eq_true rfl) ?_
  intro p e s m args below meth c A X
  have X : Cx p s m args meth c cX5_style 7 (some .int) RX5 wsX5_style D (tyL cB cI cZ) A := X
  show WW p l e rmX5_style s m args below meth c 7 D A (mW ad cB cI cZ) (QI below args s D (tyL cB cI cZ) (mW ad cB cI cZ) A post) z 0 [(0, .ref (ad 0)), (1, .int a1), (2, .int a2), (3, .int a3), (4, .int a4), (5, .int a5), (6, .int a6)] []
  unfold pX5_style at hp
  refine ww_aload_n X dX5_style_0 0 rfl ?_
  refine ww_iload_n X dX5_style_1 1 rfl ?_
  refine ww_callV_i X (As := [.int a1]) (rest := []) (kX5_isJump l D ad cB cI cZ a1 z _ hp) (cwV 1 X.hts gX5_style_X5_isJump rfl rfl rfl hd_X5_isJump ⟨Nat.le_of_ble_eq_true rfl, Nat.le_of_ble_eq_true rfl⟩) 0 5 mg_0 rfl rfl rfl rfl (Nat.le_of_ble_eq_true rfl) dX5_style_2 (fun r2 u1 hp => ?_)
  refine ww_if_eq X (tgt := 56) dX5_style_5 (by decide) (fun h3 => ?_) (fun h3 => ?_)
  · have hp := hp.1 h3
    exact ww_sub (lv' := [(0, .ref (ad 0))]) [0] rfl (wX5_style_b56 X   u1 hp)
  · have hp := hp.2 h3
    refine ww_iload_n X dX5_style_8 2 rfl ?_
    refine ww_callS_i X (As := [.int a2]) (rest := []) (kX5_isMark l D ad cB cI cZ a2 u1 _ hp) (va_cwS 1 X.hts gX5_style_X5_isMark rfl rfl rfl hn_X5_isMark ⟨Nat.le_of_ble_eq_true rfl, Nat.le_of_ble_eq_true rfl⟩) rfl rfl (Nat.le_of_ble_eq_true rfl) dX5_style_9 (fun r5 u4 hp => ?_)
    refine ww_if_eq X (tgt := 56) dX5_style_12 (by decide) (fun h6 => ?_) (fun h6 => ?_)
    · have hp := hp.1 h6
      exact ww_sub (lv' := [(0, .ref (ad 0))]) [0] rfl (wX5_style_b56 X   u4 hp)
    · have hp := hp.2 h6
      refine ww_iload_n X dX5_style_15 3 rfl ?_
      refine ww_callS_i X (As := [.int a3]) (rest := []) (kX5_isMark l D ad cB cI cZ a3 u4 _ hp) (va_cwS 1 X.hts gX5_style_X5_isMark rfl rfl rfl hn_X5_isMark ⟨Nat.le_of_ble_eq_true rfl, Nat.le_of_ble_eq_true rfl⟩) rfl rfl (Nat.le_of_ble_eq_true rfl) dX5_style_16 (fun r8 u7 hp => ?_)
      refine ww_if_eq X (tgt := 56) dX5_style_19 (by decide) (fun h9 => ?_) (fun h9 => ?_)
      · have hp := hp.1 h9
        exact ww_sub (lv' := [(0, .ref (ad 0))]) [0] rfl (wX5_style_b56 X   u7 hp)
      · have hp := hp.2 h9
        refine ww_iload X dX5_style_22 4 rfl ?_
        refine ww_callS_i X (As := [.int a4]) (rest := []) (kX5_isMark l D ad cB cI cZ a4 u7 _ hp) (va_cwS 1 X.hts gX5_style_X5_isMark rfl rfl rfl hn_X5_isMark ⟨Nat.le_of_ble_eq_true rfl, Nat.le_of_ble_eq_true rfl⟩) rfl rfl (Nat.le_of_ble_eq_true rfl) dX5_style_24 (fun r11 u10 hp => ?_)
        refine ww_if_eq X (tgt := 56) dX5_style_27 (by decide) (fun h12 => ?_) (fun h12 => ?_)
        · have hp := hp.1 h12
          exact ww_sub (lv' := [(0, .ref (ad 0))]) [0] rfl (wX5_style_b56 X   u10 hp)
        · have hp := hp.2 h12
          refine ww_iload X dX5_style_30 5 rfl ?_
          refine ww_callS_i X (As := [.int a5]) (rest := []) (kX5_isMark l D ad cB cI cZ a5 u10 _ hp) (va_cwS 1 X.hts gX5_style_X5_isMark rfl rfl rfl hn_X5_isMark ⟨Nat.le_of_ble_eq_true rfl, Nat.le_of_ble_eq_true rfl⟩) rfl rfl (Nat.le_of_ble_eq_true rfl) dX5_style_32 (fun r14 u13 hp => ?_)
          refine ww_if_eq X (tgt := 56) dX5_style_35 (by decide) (fun h15 => ?_) (fun h15 => ?_)
          · have hp := hp.1 h15
            exact ww_sub (lv' := [(0, .ref (ad 0))]) [0] rfl (wX5_style_b56 X   u13 hp)
          · have hp := hp.2 h15
            refine ww_iload X dX5_style_38 6 rfl ?_
            refine ww_callS_i X (As := [.int a6]) (rest := []) (kX5_isMark l D ad cB cI cZ a6 u13 _ hp) (va_cwS 1 X.hts gX5_style_X5_isMark rfl rfl rfl hn_X5_isMark ⟨Nat.le_of_ble_eq_true rfl, Nat.le_of_ble_eq_true rfl⟩) rfl rfl (Nat.le_of_ble_eq_true rfl) dX5_style_40 (fun r17 u16 hp => ?_)
            refine ww_if_eq X (tgt := 56) dX5_style_43 (by decide) (fun h18 => ?_) (fun h18 => ?_)
            · have hp := hp.1 h18
              exact ww_sub (lv' := [(0, .ref (ad 0))]) [0] rfl (wX5_style_b56 X   u16 hp)
            · have hp := hp.2 h18
              refine ww_aload_n X dX5_style_46 0 rfl ?_
              refine ww_get X in_X5_style_X5 0 mg_0 rfl 5 (by decide) (X.wd 1 rfl) (v := .int (u16.1 2)) rfl dX5_style_47 ?_
              refine ww_sipush X (v := 200) dX5_style_50 (by decide) ?_
              refine ww_icmp_ne X (tgt := 60) dX5_style_53 (by decide) (fun h19 => ?_) (fun h19 => ?_)
              · have hp := hp.1 h19
                refine ww_aload_n X dX5_style_60 0 rfl ?_
                refine ww_iconst X (v := 2) dX5_style_61 (by decide) ?_
                refine ww_iload_n X dX5_style_62 1 rfl ?_
                refine ww_iload_n X dX5_style_63 2 rfl ?_
                refine ww_iload_n X dX5_style_64 3 rfl ?_
                refine ww_iload X dX5_style_65 4 rfl ?_
                refine ww_iload X dX5_style_67 5 rfl ?_
                refine ww_iload X dX5_style_69 6 rfl ?_
                refine ww_callV_i X (As := [.int 2, .int a1, .int a2, .int a3, .int a4, .int a5, .int a6]) (rest := []) (kX5_tells l D ad cB cI cZ 2 a1 a2 a3 a4 a5 a6 u16 _ hp) (cwV 7 X.hts gX5_style_X5_tells rfl rfl rfl hd_X5_tells ⟨Nat.le_of_ble_eq_true rfl, Nat.le_of_ble_eq_true rfl⟩) 0 5 mg_0 rfl rfl rfl rfl (Nat.le_of_ble_eq_true rfl) dX5_style_71 (fun r21 u20 hp => ?_)
                exact ww_iret X hp dX5_style_74
              · have hp := hp.2 h19
                exact ww_sub (lv' := [(0, .ref (ad 0))]) [0] rfl (wX5_style_b56 X   u16 hp)
set_option maxHeartbeats 4000000 in
set_option maxRecDepth 100000 in
theorem wX5_lastOf_b38 {p : Program} {l : Launch} {e : Env} {s : State} {m : MethodId} {args : Array Value} {below : List Frame} {meth : Method} {c : Code} {D : va_G} {A : Nat → Prop} {ad : Nat → Nat} {cB cI cZ : ClassId} {post : Int32 → Sg → Prop}  (X : Cx p s m args meth c cX5_lastOf 5 (some .int) RX5 wsX5_lastOf D (tyL cB cI cZ) A)  (x4 : Int32) (z : Sg) (hp : pX5_lastOf_b38  post x4 z) : WW p l e rmX5_lastOf s m args below meth c 5 D A (mW ad cB cI cZ) (QI below args s D (tyL cB cI cZ) (mW ad cB cI cZ) A post) z 38 [(0, .ref (ad 0)), (4, .int x4)] [] := by
  unfold pX5_lastOf_b38 at hp
  refine ww_iload X dX5_lastOf_38 1 rfl ?_
  exact ww_iret X hp dX5_lastOf_40
set_option maxHeartbeats 4000000 in
set_option maxRecDepth 100000 in
theorem wX5_lastOf_b32 {p : Program} {l : Launch} {e : Env} {s : State} {m : MethodId} {args : Array Value} {below : List Frame} {meth : Method} {c : Code} {D : va_G} {A : Nat → Prop} {ad : Nat → Nat} {cB cI cZ : ClassId} {post : Int32 → Sg → Prop} {K5 : Int32 → Int32 → Int32 → Sg → Prop} (X : Cx p s m args meth c cX5_lastOf 5 (some .int) RX5 wsX5_lastOf D (tyL cB cI cZ) A) (hK5 : ∀ (x2 x3 x4 : Int32) (z : Sg), K5 x2 x3 x4 z → WW p l e rmX5_lastOf s m args below meth c 5 D A (mW ad cB cI cZ) (QI below args s D (tyL cB cI cZ) (mW ad cB cI cZ) A post) z 5 [(0, .ref (ad 0)), (2, .int x2), (3, .int x3), (4, .int x4)] []) (x2 x3 x4 : Int32) (z : Sg) (hp : pX5_lastOf_b32 K5 post x2 x3 x4 z) : WW p l e rmX5_lastOf s m args below meth c 5 D A (mW ad cB cI cZ) (QI below args s D (tyL cB cI cZ) (mW ad cB cI cZ) A post) z 32 [(0, .ref (ad 0)), (2, .int x2), (3, .int x3), (4, .int x4)] [] := by
  unfold pX5_lastOf_b32 at hp
  refine ww_iinc X (v := (x4 + (-1))) (lv' := [(4, .int (x4 + (-1))), (0, .ref (ad 0)), (2, .int x2), (3, .int x3)]) dX5_lastOf_32 3 rfl rfl (by decide) rfl ?_
  refine ww_goto X (tgt := 5) dX5_lastOf_35 (by decide) ?_
  exact ww_sub (lv' := [(0, .ref (ad 0)), (2, .int x2), (3, .int x3), (4, .int (x4 + (-1)))]) [1, 2, 3, 0] rfl (hK5 x2 x3 (x4 + (-1)) z hp)
set_option maxHeartbeats 4000000 in
set_option maxRecDepth 100000 in
theorem wX5_lastOf_b5 {p : Program} {l : Launch} {e : Env} {s : State} {m : MethodId} {args : Array Value} {below : List Frame} {meth : Method} {c : Code} {D : va_G} {A : Nat → Prop} {ad : Nat → Nat} {cB cI cZ : ClassId} {post : Int32 → Sg → Prop} {K5 : Int32 → Int32 → Int32 → Sg → Prop} (X : Cx p s m args meth c cX5_lastOf 5 (some .int) RX5 wsX5_lastOf D (tyL cB cI cZ) A) (hK5 : ∀ (x2 x3 x4 : Int32) (z : Sg), K5 x2 x3 x4 z → WW p l e rmX5_lastOf s m args below meth c 5 D A (mW ad cB cI cZ) (QI below args s D (tyL cB cI cZ) (mW ad cB cI cZ) A post) z 5 [(0, .ref (ad 0)), (2, .int x2), (3, .int x3), (4, .int x4)] []) (x2 x3 x4 : Int32) (z : Sg) (hp : pX5_lastOf_b5 K5 post x2 x3 x4 z) : WW p l e rmX5_lastOf s m args below meth c 5 D A (mW ad cB cI cZ) (QI below args s D (tyL cB cI cZ) (mW ad cB cI cZ) A post) z 5 [(0, .ref (ad 0)), (2, .int x2), (3, .int x3), (4, .int x4)] [] := by
  unfold pX5_lastOf_b5 at hp
  refine ww_iload X dX5_lastOf_5 3 rfl ?_
  refine ww_if_lt X (tgt := 38) dX5_lastOf_7 (by decide) (fun h1 => ?_) (fun h1 => ?_)
  · have hp := hp.1 h1
    exact ww_sub (lv' := [(0, .ref (ad 0)), (4, .int x4)]) [0, 3] rfl (wX5_lastOf_b38 X  x4 z hp)
  · have hp := hp.2 h1
    refine ww_aload_n X dX5_lastOf_10 0 rfl ?_
    refine ww_get X in_X5_lastOf_X5 0 mg_0 rfl 11 (by decide) (X.wd 1 rfl) (v := .ref (ad 7)) rfl dX5_lastOf_11 ?_
    refine ww_iload X dX5_lastOf_14 3 rfl ?_
    obtain ⟨h2, hp⟩ := hp
    refine ww_iald X 7 1 mg_7 rfl (v := (gA z 6 x4)) h2 rfl dX5_lastOf_16 ?_
    refine ww_iload_n X dX5_lastOf_17 1 rfl ?_
    refine ww_icmp_ne X (tgt := 32) dX5_lastOf_18 (by decide) (fun h3 => ?_) (fun h3 => ?_)
    · have hp := hp.1 h3
      exact wX5_lastOf_b32 X hK5 x2 x3 x4 z hp
    · have hp := hp.2 h3
      refine ww_aload_n X dX5_lastOf_21 0 rfl ?_
      refine ww_get X in_X5_lastOf_X5 0 mg_0 rfl 12 (by decide) (X.wd 2 rfl) (v := .ref (ad 8)) rfl dX5_lastOf_22 ?_
      refine ww_iload X dX5_lastOf_25 3 rfl ?_
      obtain ⟨h4, hp⟩ := hp
      refine ww_iald X 8 1 mg_8 rfl (v := (gA z 7 x4)) h4 rfl dX5_lastOf_27 ?_
      refine ww_iload_n X dX5_lastOf_28 2 rfl ?_
      refine ww_icmp_eq X (tgt := 38) dX5_lastOf_29 (by decide) (fun h5 => ?_) (fun h5 => ?_)
      · have hp := hp.1 h5
        exact ww_sub (lv' := [(0, .ref (ad 0)), (4, .int x4)]) [0, 3] rfl (wX5_lastOf_b38 X  x4 z hp)
      · have hp := hp.2 h5
        exact wX5_lastOf_b32 X hK5 x2 x3 x4 z hp
set_option maxHeartbeats 4000000 in
set_option maxRecDepth 100000 in
theorem wX5_lastOf_l5 {p : Program} {l : Launch} {e : Env} {s : State} {m : MethodId} {args : Array Value} {below : List Frame} {meth : Method} {c : Code} {D : va_G} {A : Nat → Prop} {ad : Nat → Nat} {cB cI cZ : ClassId} {post : Int32 → Sg → Prop}  (X : Cx p s m args meth c cX5_lastOf 5 (some .int) RX5 wsX5_lastOf D (tyL cB cI cZ) A)  (x2 x3 x4 : Int32) (z : Sg) (hp : pX5_lastOf_l5  post x2 x3 x4 z) : WW p l e rmX5_lastOf s m args below meth c 5 D A (mW ad cB cI cZ) (QI below args s D (tyL cB cI cZ) (mW ad cB cI cZ) A post) z 5 [(0, .ref (ad 0)), (2, .int x2), (3, .int x3), (4, .int x4)] [] := by
  have key := lp_walk (F := (fun (K : Int32 × Int32 × Int32 → Sg → Prop) (a : Int32 × Int32 × Int32) (z : Sg) => pX5_lastOf_b5 (fun (x2 x3 x4 : Int32) z => K (x2, x3, x4) z) post a.1 a.2.1 a.2.2 z)) (P := fun a z => WW p l e rmX5_lastOf s m args below meth c 5 D A (mW ad cB cI cZ) (QI below args s D (tyL cB cI cZ) (mW ad cB cI cZ) A post) z 5 [(0, .ref (ad 0)), (2, .int a.1), (3, .int a.2.1), (4, .int a.2.2)] []) (fun K hK a z hp => wX5_lastOf_b5 X (fun x2 x3 x4 z h => hK (x2, x3, x4) z h) a.1 a.2.1 a.2.2 z hp)
  exact key (x2, x3, x4) z hp
set_option maxHeartbeats 4000000 in
set_option maxRecDepth 100000 in
theorem kX5_lastOf (l : Launch) (D : va_G) (ad : Nat → Nat) (cB cI cZ : ClassId) (a1 a2 a3 : Int32) (z : Sg) (post : Int32 → Sg → Prop) (hp : pX5_lastOf a1 a2 a3 z post) : Ci l D (tyL cB cI cZ) (mW ad cB cI cZ) yX5_lastOf wsX5_lastOf rmX5_lastOf [.ref (ad 0), .int a1, .int a2, .int a3] z post := by
  refine Ci.of (cc := cX5_lastOf) (maxL := 5) (ret := (some .int)) (by decide) rfl (Nat.le_of_ble_eq_true rfl) ?_
  intro p e s m args below meth c A X
  have X : Cx p s m args meth c cX5_lastOf 5 (some .int) RX5 wsX5_lastOf D (tyL cB cI cZ) A := X
  show WW p l e rmX5_lastOf s m args below meth c 5 D A (mW ad cB cI cZ) (QI below args s D (tyL cB cI cZ) (mW ad cB cI cZ) A post) z 0 [(0, .ref (ad 0)), (1, .int a1), (2, .int a2), (3, .int a3)] []
  unfold pX5_lastOf at hp
  refine ww_iload_n X dX5_lastOf_0 1 rfl ?_
  refine ww_iconst X (v := 1) dX5_lastOf_1 (by decide) ?_
  refine ww_isub X dX5_lastOf_2 ?_
  refine ww_top (fun v1 hv1 => ?_)
  have hp := hp v1 hv1
  refine ww_istore X (lv' := [(4, .int v1), (0, .ref (ad 0)), (1, .int a1), (2, .int a2), (3, .int a3)]) dX5_lastOf_3 (by decide) rfl ?_
  exact ww_sub (lv' := [(0, .ref (ad 0)), (2, .int a2), (3, .int a3), (4, .int v1)]) [1, 3, 4, 0] rfl (wX5_lastOf_l5 X  a2 a3 v1 z hp)
set_option maxHeartbeats 4000000 in
set_option maxRecDepth 100000 in
theorem wX5_isStruck_b29 {p : Program} {l : Launch} {e : Env} {s : State} {m : MethodId} {args : Array Value} {below : List Frame} {meth : Method} {c : Code} {D : va_G} {A : Nat → Prop} {ad : Nat → Nat} {cB cI cZ : ClassId} {post : Int32 → Sg → Prop}  (X : Cx p s m args meth c cX5_isStruck 4 (some .boolean) RX5 wsX5_isStruck D (tyL cB cI cZ) A)  (y0 : Int32) (z : Sg) (hp : pX5_isStruck_b29  post y0 z) : WW p l e rmX5_isStruck s m args below meth c 4 D A (mW ad cB cI cZ) (QI below args s D (tyL cB cI cZ) (mW ad cB cI cZ) A post) z 29 [(0, .ref (ad 0))] [.int y0] := by
  unfold pX5_isStruck_b29 at hp
  exact ww_zret X hp.1 hp.2 dX5_isStruck_29
set_option maxHeartbeats 4000000 in
set_option maxRecDepth 100000 in
theorem wX5_isStruck_b28 {p : Program} {l : Launch} {e : Env} {s : State} {m : MethodId} {args : Array Value} {below : List Frame} {meth : Method} {c : Code} {D : va_G} {A : Nat → Prop} {ad : Nat → Nat} {cB cI cZ : ClassId} {post : Int32 → Sg → Prop}  (X : Cx p s m args meth c cX5_isStruck 4 (some .boolean) RX5 wsX5_isStruck D (tyL cB cI cZ) A)  (z : Sg) (hp : pX5_isStruck_b28  post  z) : WW p l e rmX5_isStruck s m args below meth c 4 D A (mW ad cB cI cZ) (QI below args s D (tyL cB cI cZ) (mW ad cB cI cZ) A post) z 28 [(0, .ref (ad 0))] [] := by
  unfold pX5_isStruck_b28 at hp
  refine ww_iconst X (v := 0) dX5_isStruck_28 (by decide) ?_
  exact wX5_isStruck_b29 X  0 z hp
set_option maxHeartbeats 4000000 in
set_option maxRecDepth 100000 in
theorem kX5_isStruck (l : Launch) (D : va_G) (ad : Nat → Nat) (cB cI cZ : ClassId) (a1 a2 : Int32) (z : Sg) (post : Int32 → Sg → Prop) (hp : pX5_isStruck a1 a2 z post) : Ci l D (tyL cB cI cZ) (mW ad cB cI cZ) yX5_isStruck wsX5_isStruck rmX5_isStruck [.ref (ad 0), .int a1, .int a2] z post := by
  refine Ci.of (cc := cX5_isStruck) (maxL := 4) (ret := (some .boolean)) (by decide) rfl (Nat.le_of_ble_eq_true rfl) ?_
  intro p e s m args below meth c A X
  have X : Cx p s m args meth c cX5_isStruck 4 (some .boolean) RX5 wsX5_isStruck D (tyL cB cI cZ) A := X
  show WW p l e rmX5_isStruck s m args below meth c 4 D A (mW ad cB cI cZ) (QI below args s D (tyL cB cI cZ) (mW ad cB cI cZ) A post) z 0 [(0, .ref (ad 0)), (1, .int a1), (2, .int a2)] []
  unfold pX5_isStruck at hp
  refine ww_aload_n X dX5_isStruck_0 0 rfl ?_
  refine ww_iload_n X dX5_isStruck_1 1 rfl ?_
  refine ww_iconst X (v := 3) dX5_isStruck_2 (by decide) ?_
  refine ww_iload_n X dX5_isStruck_3 2 rfl ?_
  refine ww_callV_i X (As := [.int a1, .int 3, .int a2]) (rest := []) (kX5_lastOf l D ad cB cI cZ a1 3 a2 z _ hp) (cwV 3 X.hts gX5_isStruck_X5_lastOf rfl rfl rfl hd_X5_lastOf ⟨Nat.le_of_ble_eq_true rfl, Nat.le_of_ble_eq_true rfl⟩) 0 5 mg_0 rfl rfl rfl rfl (Nat.le_of_ble_eq_true rfl) dX5_isStruck_4 (fun r2 u1 hp => ?_)
  refine ww_istore_n X (lv' := [(3, .int r2), (0, .ref (ad 0)), (1, .int a1), (2, .int a2)]) dX5_isStruck_7 (by decide) rfl ?_
  refine ww_iload_n X dX5_isStruck_8 0 rfl ?_
  refine ww_if_lt X (tgt := 28) dX5_isStruck_9 (by decide) (fun h3 => ?_) (fun h3 => ?_)
  · have hp := hp.1 h3
    exact ww_sub (lv' := [(0, .ref (ad 0))]) [1] rfl (wX5_isStruck_b28 X   u1 hp)
  · have hp := hp.2 h3
    refine ww_aload_n X dX5_isStruck_12 1 rfl ?_
    refine ww_get X in_X5_isStruck_X5 0 mg_0 rfl 13 (by decide) (X.wd 1 rfl) (v := .ref (ad 9)) rfl dX5_isStruck_13 ?_
    refine ww_iconst X (v := 5) dX5_isStruck_16 (by decide) ?_
    refine ww_iload_n X dX5_isStruck_17 0 rfl ?_
    refine ww_imul X dX5_isStruck_18 ?_
    obtain ⟨h4, hp⟩ := hp
    refine ww_iald X 9 1 mg_9 rfl (v := (gA u1 8 (5 * r2))) h4 rfl dX5_isStruck_19 ?_
    refine ww_iconst X (v := 1) dX5_isStruck_20 (by decide) ?_
    refine ww_icmp_ne X (tgt := 28) dX5_isStruck_21 (by decide) (fun h5 => ?_) (fun h5 => ?_)
    · have hp := hp.1 h5
      exact ww_sub (lv' := [(0, .ref (ad 0))]) [1] rfl (wX5_isStruck_b28 X   u1 hp)
    · have hp := hp.2 h5
      refine ww_iconst X (v := 1) dX5_isStruck_24 (by decide) ?_
      refine ww_goto X (tgt := 29) dX5_isStruck_25 (by decide) ?_
      exact ww_sub (lv' := [(0, .ref (ad 0))]) [1] rfl (wX5_isStruck_b29 X  1 u1 hp)
set_option maxHeartbeats 4000000 in
set_option maxRecDepth 100000 in
theorem wX5_strike_b66 {p : Program} {l : Launch} {e : Env} {s : State} {m : MethodId} {args : Array Value} {below : List Frame} {meth : Method} {c : Code} {D : va_G} {A : Nat → Prop} {ad : Nat → Nat} {cB cI cZ : ClassId} {post : Int32 → Sg → Prop}  (X : Cx p s m args meth c cX5_strike 4 (some .int) RX5 wsX5_strike D (tyL cB cI cZ) A)  (y0 y1 y2 : Int32) (z : Sg) (hp : pX5_strike_b66  post y0 y1 y2 z) : WW p l e rmX5_strike s m args below meth c 4 D A (mW ad cB cI cZ) (QI below args s D (tyL cB cI cZ) (mW ad cB cI cZ) A post) z 66 [(0, .ref (ad 0))] [.int y0, .int y1, .int y2, .ref (ad 0)] := by
  unfold pX5_strike_b66 at hp
  refine ww_iconst X (v := 0) dX5_strike_66 (by decide) ?_
  refine ww_iconst X (v := 0) dX5_strike_67 (by decide) ?_
  refine ww_iconst X (v := 0) dX5_strike_68 (by decide) ?_
  refine ww_iconst X (v := 0) dX5_strike_69 (by decide) ?_
  refine ww_callV_i X (As := [.int y2, .int y1, .int y0, .int 0, .int 0, .int 0, .int 0]) (rest := []) (kX5_tells l D ad cB cI cZ y2 y1 y0 0 0 0 0 z _ hp) (cwV 7 X.hts gX5_strike_X5_tells rfl rfl rfl hd_X5_tells ⟨Nat.le_of_ble_eq_true rfl, Nat.le_of_ble_eq_true rfl⟩) 0 5 mg_0 rfl rfl rfl rfl (Nat.le_of_ble_eq_true rfl) dX5_strike_70 (fun r2 u1 hp => ?_)
  exact ww_iret X hp dX5_strike_73
set_option maxHeartbeats 4000000 in
set_option maxRecDepth 100000 in
theorem wX5_strike_b45 {p : Program} {l : Launch} {e : Env} {s : State} {m : MethodId} {args : Array Value} {below : List Frame} {meth : Method} {c : Code} {D : va_G} {A : Nat → Prop} {ad : Nat → Nat} {cB cI cZ : ClassId} {post : Int32 → Sg → Prop}  (X : Cx p s m args meth c cX5_strike 4 (some .int) RX5 wsX5_strike D (tyL cB cI cZ) A)  (z : Sg) (hp : pX5_strike_b45  post  z) : WW p l e rmX5_strike s m args below meth c 4 D A (mW ad cB cI cZ) (QI below args s D (tyL cB cI cZ) (mW ad cB cI cZ) A post) z 45 [(0, .ref (ad 0))] [] := by
  unfold pX5_strike_b45 at hp
  refine ww_sipush X (v := (-10000)) dX5_strike_45 (by decide) ?_
  exact ww_iret X hp dX5_strike_48
set_option maxHeartbeats 4000000 in
set_option maxRecDepth 100000 in
theorem kX5_strike (l : Launch) (D : va_G) (ad : Nat → Nat) (cB cI cZ : ClassId) (a1 a2 a3 : Int32) (z : Sg) (post : Int32 → Sg → Prop) (hp : pX5_strike a1 a2 a3 z post) : Ci l D (tyL cB cI cZ) (mW ad cB cI cZ) yX5_strike wsX5_strike rmX5_strike [.ref (ad 0), .int a1, .int a2, .int a3] z post := by
  refine Ci.of (cc := cX5_strike) (maxL := 4) (ret := (some .int)) (by decide) rfl (Nat.le_of_ble_eq_true rfl) ?_
  intro p e s m args below meth c A X
  have X : Cx p s m args meth c cX5_strike 4 (some .int) RX5 wsX5_strike D (tyL cB cI cZ) A := X
  show WW p l e rmX5_strike s m args below meth c 4 D A (mW ad cB cI cZ) (QI below args s D (tyL cB cI cZ) (mW ad cB cI cZ) A post) z 0 [(0, .ref (ad 0)), (1, .int a1), (2, .int a2), (3, .int a3)] []
  unfold pX5_strike at hp
  refine ww_aload_n X dX5_strike_0 0 rfl ?_
  refine ww_iload_n X dX5_strike_1 1 rfl ?_
  refine ww_callV_i X (As := [.int a1]) (rest := []) (kX5_isJumper l D ad cB cI cZ a1 z _ hp) (cwV 1 X.hts gX5_strike_X5_isJumper rfl rfl rfl hd_X5_isJumper ⟨Nat.le_of_ble_eq_true rfl, Nat.le_of_ble_eq_true rfl⟩) 0 5 mg_0 rfl rfl rfl rfl (Nat.le_of_ble_eq_true rfl) dX5_strike_2 (fun r2 u1 hp => ?_)
  refine ww_if_eq X (tgt := 45) dX5_strike_5 (by decide) (fun h3 => ?_) (fun h3 => ?_)
  · have hp := hp.1 h3
    exact ww_sub (lv' := [(0, .ref (ad 0))]) [0] rfl (wX5_strike_b45 X   u1 hp)
  · have hp := hp.2 h3
    refine ww_iload_n X dX5_strike_8 2 rfl ?_
    refine ww_iconst X (v := 0) dX5_strike_9 (by decide) ?_
    refine ww_iconst X (v := 1) dX5_strike_10 (by decide) ?_
    refine ww_callS_i X (As := [.int a2, .int 0, .int 1]) (rest := []) (kX5_lies l D ad cB cI cZ a2 0 1 u1 _ hp) (va_cwS 3 X.hts gX5_strike_X5_lies rfl rfl rfl hn_X5_lies ⟨Nat.le_of_ble_eq_true rfl, Nat.le_of_ble_eq_true rfl⟩) rfl rfl (Nat.le_of_ble_eq_true rfl) dX5_strike_11 (fun r5 u4 hp => ?_)
    refine ww_if_eq X (tgt := 45) dX5_strike_14 (by decide) (fun h6 => ?_) (fun h6 => ?_)
    · have hp := hp.1 h6
      exact ww_sub (lv' := [(0, .ref (ad 0))]) [0] rfl (wX5_strike_b45 X   u4 hp)
    · have hp := hp.2 h6
      refine ww_aload_n X dX5_strike_17 0 rfl ?_
      refine ww_get X in_X5_strike_X5 0 mg_0 rfl 5 (by decide) (X.wd 1 rfl) (v := .int (u4.1 2)) rfl dX5_strike_18 ?_
      refine ww_sipush X (v := 200) dX5_strike_21 (by decide) ?_
      refine ww_icmp_eq X (tgt := 45) dX5_strike_24 (by decide) (fun h7 => ?_) (fun h7 => ?_)
      · have hp := hp.1 h7
        exact ww_sub (lv' := [(0, .ref (ad 0))]) [0] rfl (wX5_strike_b45 X   u4 hp)
      · have hp := hp.2 h7
        refine ww_aload_n X dX5_strike_27 0 rfl ?_
        refine ww_aload_n X dX5_strike_28 0 rfl ?_
        refine ww_get X in_X5_strike_X5 0 mg_0 rfl 5 (by decide) (X.wd 1 rfl) (v := .int (u4.1 2)) rfl dX5_strike_29 ?_
        refine ww_iload_n X dX5_strike_32 1 rfl ?_
        refine ww_bipush X (v := 32) dX5_strike_33 (by decide) ?_
        refine ww_iload_n X dX5_strike_35 2 rfl ?_
        refine ww_imul X dX5_strike_36 ?_
        refine ww_iadd X dX5_strike_37 ?_
        refine ww_callV_i X (As := [.int (u4.1 2), .int (a1 + (32 * a2))]) (rest := []) (kX5_isStruck l D ad cB cI cZ (u4.1 2) (a1 + (32 * a2)) u4 _ hp) (cwV 2 X.hts gX5_strike_X5_isStruck rfl rfl rfl hd_X5_isStruck ⟨Nat.le_of_ble_eq_true rfl, Nat.le_of_ble_eq_true rfl⟩) 0 5 mg_0 rfl rfl rfl rfl (Nat.le_of_ble_eq_true rfl) dX5_strike_38 (fun r9 u8 hp => ?_)
        refine ww_iload_n X dX5_strike_41 3 rfl ?_
        refine ww_icmp_ne X (tgt := 49) dX5_strike_42 (by decide) (fun h10 => ?_) (fun h10 => ?_)
        · have hp := hp.1 h10
          refine ww_aload_n X dX5_strike_49 0 rfl ?_
          refine ww_iconst X (v := 3) dX5_strike_50 (by decide) ?_
          refine ww_iload_n X dX5_strike_51 1 rfl ?_
          refine ww_bipush X (v := 32) dX5_strike_52 (by decide) ?_
          refine ww_iload_n X dX5_strike_54 2 rfl ?_
          refine ww_imul X dX5_strike_55 ?_
          refine ww_iadd X dX5_strike_56 ?_
          refine ww_iload_n X dX5_strike_57 3 rfl ?_
          refine ww_if_eq X (tgt := 65) dX5_strike_58 (by decide) (fun h11 => ?_) (fun h11 => ?_)
          · have hp := hp.1 h11
            refine ww_iconst X (v := 0) dX5_strike_65 (by decide) ?_
            exact ww_sub (lv' := [(0, .ref (ad 0))]) [0] rfl (wX5_strike_b66 X  0 (a1 + (32 * a2)) 3 u8 hp)
          · have hp := hp.2 h11
            refine ww_iconst X (v := 1) dX5_strike_61 (by decide) ?_
            refine ww_goto X (tgt := 66) dX5_strike_62 (by decide) ?_
            exact ww_sub (lv' := [(0, .ref (ad 0))]) [0] rfl (wX5_strike_b66 X  1 (a1 + (32 * a2)) 3 u8 hp)
        · have hp := hp.2 h10
          exact ww_sub (lv' := [(0, .ref (ad 0))]) [0] rfl (wX5_strike_b45 X   u8 hp)
set_option maxHeartbeats 4000000 in
set_option maxRecDepth 100000 in
theorem wX5_has_b24 {p : Program} {l : Launch} {e : Env} {s : State} {m : MethodId} {args : Array Value} {below : List Frame} {meth : Method} {c : Code} {D : va_G} {A : Nat → Prop} {ad : Nat → Nat} {cB cI cZ : ClassId} {post : Int32 → Sg → Prop}  (X : Cx p s m args meth c cX5_has 3 (some .boolean) RX5 wsX5_has D (tyL cB cI cZ) A)  (y0 : Int32) (z : Sg) (hp : pX5_has_b24  post y0 z) : WW p l e rmX5_has s m args below meth c 3 D A (mW ad cB cI cZ) (QI below args s D (tyL cB cI cZ) (mW ad cB cI cZ) A post) z 24 [(0, .ref (ad 0))] [.int y0] := by
  unfold pX5_has_b24 at hp
  exact ww_zret X hp.1 hp.2 dX5_has_24
set_option maxHeartbeats 4000000 in
set_option maxRecDepth 100000 in
theorem wX5_has_b23 {p : Program} {l : Launch} {e : Env} {s : State} {m : MethodId} {args : Array Value} {below : List Frame} {meth : Method} {c : Code} {D : va_G} {A : Nat → Prop} {ad : Nat → Nat} {cB cI cZ : ClassId} {post : Int32 → Sg → Prop}  (X : Cx p s m args meth c cX5_has 3 (some .boolean) RX5 wsX5_has D (tyL cB cI cZ) A)  (z : Sg) (hp : pX5_has_b23  post  z) : WW p l e rmX5_has s m args below meth c 3 D A (mW ad cB cI cZ) (QI below args s D (tyL cB cI cZ) (mW ad cB cI cZ) A post) z 23 [(0, .ref (ad 0))] [] := by
  unfold pX5_has_b23 at hp
  refine ww_iconst X (v := 0) dX5_has_23 (by decide) ?_
  exact wX5_has_b24 X  0 z hp
set_option maxHeartbeats 4000000 in
set_option maxRecDepth 100000 in
theorem kX5_has (l : Launch) (D : va_G) (ad : Nat → Nat) (cB cI cZ : ClassId) (a1 a2 : Int32) (z : Sg) (post : Int32 → Sg → Prop) (hp : pX5_has a1 a2 z post) : Ci l D (tyL cB cI cZ) (mW ad cB cI cZ) yX5_has wsX5_has rmX5_has [.ref (ad 0), .int a1, .int a2] z post := by
  refine Ci.of (cc := cX5_has) (maxL := 3) (ret := (some .boolean)) (by decide) rfl (Nat.le_of_ble_eq_true rfl) ?_
  intro p e s m args below meth c A X
  have X : Cx p s m args meth c cX5_has 3 (some .boolean) RX5 wsX5_has D (tyL cB cI cZ) A := X
  show WW p l e rmX5_has s m args below meth c 3 D A (mW ad cB cI cZ) (QI below args s D (tyL cB cI cZ) (mW ad cB cI cZ) A post) z 0 [(0, .ref (ad 0)), (1, .int a1), (2, .int a2)] []
  unfold pX5_has at hp
  refine ww_aload_n X dX5_has_0 0 rfl ?_
  refine ww_iload_n X dX5_has_1 1 rfl ?_
  refine ww_iconst X (v := 0) dX5_has_2 (by decide) ?_
  refine ww_iload_n X dX5_has_3 2 rfl ?_
  refine ww_callV_i X (As := [.int a1, .int 0, .int a2]) (rest := []) (kX5_lastOf l D ad cB cI cZ a1 0 a2 z _ hp) (cwV 3 X.hts gX5_has_X5_lastOf rfl rfl rfl hd_X5_lastOf ⟨Nat.le_of_ble_eq_true rfl, Nat.le_of_ble_eq_true rfl⟩) 0 5 mg_0 rfl rfl rfl rfl (Nat.le_of_ble_eq_true rfl) dX5_has_4 (fun r2 u1 hp => ?_)
  refine ww_if_lt X (tgt := 23) dX5_has_7 (by decide) (fun h3 => ?_) (fun h3 => ?_)
  · have hp := hp.1 h3
    exact ww_sub (lv' := [(0, .ref (ad 0))]) [0] rfl (wX5_has_b23 X   u1 hp)
  · have hp := hp.2 h3
    refine ww_aload_n X dX5_has_10 0 rfl ?_
    refine ww_iload_n X dX5_has_11 1 rfl ?_
    refine ww_iload_n X dX5_has_12 2 rfl ?_
    refine ww_callV_i X (As := [.int a1, .int a2]) (rest := []) (kX5_isStruck l D ad cB cI cZ a1 a2 u1 _ hp) (cwV 2 X.hts gX5_has_X5_isStruck rfl rfl rfl hd_X5_isStruck ⟨Nat.le_of_ble_eq_true rfl, Nat.le_of_ble_eq_true rfl⟩) 0 5 mg_0 rfl rfl rfl rfl (Nat.le_of_ble_eq_true rfl) dX5_has_13 (fun r5 u4 hp => ?_)
    refine ww_if_ne X (tgt := 23) dX5_has_16 (by decide) (fun h6 => ?_) (fun h6 => ?_)
    · have hp := hp.1 h6
      exact ww_sub (lv' := [(0, .ref (ad 0))]) [0] rfl (wX5_has_b23 X   u4 hp)
    · have hp := hp.2 h6
      refine ww_iconst X (v := 1) dX5_has_19 (by decide) ?_
      refine ww_goto X (tgt := 24) dX5_has_20 (by decide) ?_
      exact ww_sub (lv' := [(0, .ref (ad 0))]) [0] rfl (wX5_has_b24 X  1 u4 hp)
set_option maxHeartbeats 4000000 in
set_option maxRecDepth 100000 in
theorem wX5_nearest_b31 {p : Program} {l : Launch} {e : Env} {s : State} {m : MethodId} {args : Array Value} {below : List Frame} {meth : Method} {c : Code} {D : va_G} {A : Nat → Prop} {ad : Nat → Nat} {cB cI cZ : ClassId} {post : Int32 → Sg → Prop}  (X : Cx p s m args meth c cX5_nearest 4 (some .int) RX5 wsX5_nearest D (tyL cB cI cZ) A)  (y0 : Int32) (z : Sg) (hp : pX5_nearest_b31  post y0 z) : WW p l e rmX5_nearest s m args below meth c 4 D A (mW ad cB cI cZ) (QI below args s D (tyL cB cI cZ) (mW ad cB cI cZ) A post) z 31 [] [.int y0] := by
  unfold pX5_nearest_b31 at hp
  exact ww_iret X hp dX5_nearest_31
set_option maxHeartbeats 4000000 in
set_option maxRecDepth 100000 in
theorem wX5_nearest_b10 {p : Program} {l : Launch} {e : Env} {s : State} {m : MethodId} {args : Array Value} {below : List Frame} {meth : Method} {c : Code} {D : va_G} {A : Nat → Prop} {ad : Nat → Nat} {cB cI cZ : ClassId} {post : Int32 → Sg → Prop}  (X : Cx p s m args meth c cX5_nearest 4 (some .int) RX5 wsX5_nearest D (tyL cB cI cZ) A)  (x0 x1 y0 : Int32) (z : Sg) (hp : pX5_nearest_b10  post x0 x1 y0 z) : WW p l e rmX5_nearest s m args below meth c 4 D A (mW ad cB cI cZ) (QI below args s D (tyL cB cI cZ) (mW ad cB cI cZ) A post) z 10 [(0, .int x0), (1, .int x1)] [.int y0] := by
  unfold pX5_nearest_b10 at hp
  refine ww_istore_n X (lv' := [(2, .int y0), (0, .int x0), (1, .int x1)]) dX5_nearest_10 (by decide) rfl ?_
  refine ww_iconst X (v := 2) dX5_nearest_11 (by decide) ?_
  refine ww_iload_n X dX5_nearest_12 0 rfl ?_
  refine ww_imul X dX5_nearest_13 ?_
  refine ww_iload_n X dX5_nearest_14 2 rfl ?_
  refine ww_iadd X dX5_nearest_15 ?_
  refine ww_iconst X (v := 2) dX5_nearest_16 (by decide) ?_
  refine ww_iload_n X dX5_nearest_17 2 rfl ?_
  refine ww_imul X dX5_nearest_18 ?_
  obtain ⟨h1, hp⟩ := hp
  refine ww_idiv X dX5_nearest_19 h1 ?_
  refine ww_top (fun v2 hv2 => ?_)
  have hp := hp v2 hv2
  refine ww_istore_n X (lv' := [(3, .int v2), (2, .int y0), (0, .int x0), (1, .int x1)]) dX5_nearest_20 (by decide) rfl ?_
  refine ww_iload_n X dX5_nearest_21 2 rfl ?_
  refine ww_if_ge X (tgt := 30) dX5_nearest_22 (by decide) (fun h3 => ?_) (fun h3 => ?_)
  · have hp := hp.1 h3
    refine ww_iload_n X dX5_nearest_30 0 rfl ?_
    exact ww_sub (lv' := []) [] rfl (wX5_nearest_b31 X  v2 z hp)
  · have hp := hp.2 h3
    refine ww_iload_n X dX5_nearest_25 0 rfl ?_
    refine ww_ineg X dX5_nearest_26 ?_
    refine ww_goto X (tgt := 31) dX5_nearest_27 (by decide) ?_
    exact ww_sub (lv' := []) [] rfl (wX5_nearest_b31 X  (-v2) z hp)
set_option maxHeartbeats 4000000 in
set_option maxRecDepth 100000 in
theorem kX5_nearest (l : Launch) (D : va_G) (ad : Nat → Nat) (cB cI cZ : ClassId) (a0 a1 : Int32) (z : Sg) (post : Int32 → Sg → Prop) (hp : pX5_nearest a0 a1 z post) : Ci l D (tyL cB cI cZ) (mW ad cB cI cZ) yX5_nearest wsX5_nearest rmX5_nearest [.int a0, .int a1] z post := by
  refine Ci.of (cc := cX5_nearest) (maxL := 4) (ret := (some .int)) (by decide) rfl (Nat.le_of_ble_eq_true rfl) ?_
  intro p e s m args below meth c A X
  have X : Cx p s m args meth c cX5_nearest 4 (some .int) RX5 wsX5_nearest D (tyL cB cI cZ) A := X
  show WW p l e rmX5_nearest s m args below meth c 4 D A (mW ad cB cI cZ) (QI below args s D (tyL cB cI cZ) (mW ad cB cI cZ) A post) z 0 [(0, .int a0), (1, .int a1)] []
  unfold pX5_nearest at hp
  refine ww_iload_n X dX5_nearest_0 0 rfl ?_
  refine ww_if_ge X (tgt := 9) dX5_nearest_1 (by decide) (fun h1 => ?_) (fun h1 => ?_)
  · have hp := hp.1 h1
    refine ww_iload_n X dX5_nearest_9 0 rfl ?_
    exact wX5_nearest_b10 X  a0 a1 a0 z hp
  · have hp := hp.2 h1
    refine ww_iload_n X dX5_nearest_4 0 rfl ?_
    refine ww_ineg X dX5_nearest_5 ?_
    refine ww_goto X (tgt := 10) dX5_nearest_6 (by decide) ?_
    exact wX5_nearest_b10 X  a0 a1 (-a0) z hp
set_option maxHeartbeats 4000000 in
set_option maxRecDepth 100000 in
theorem wX5_mean_b105 {p : Program} {l : Launch} {e : Env} {s : State} {m : MethodId} {args : Array Value} {below : List Frame} {meth : Method} {c : Code} {D : va_G} {A : Nat → Prop} {ad : Nat → Nat} {cB cI cZ : ClassId} {post : Int32 → Sg → Prop}  (X : Cx p s m args meth c cX5_mean 7 (some .int) RX5 wsX5_mean D (tyL cB cI cZ) A)  (y0 : Int32) (z : Sg) (hp : pX5_mean_b105  post y0 z) : WW p l e rmX5_mean s m args below meth c 7 D A (mW ad cB cI cZ) (QI below args s D (tyL cB cI cZ) (mW ad cB cI cZ) A post) z 105 [(0, .ref (ad 0))] [.int y0] := by
  unfold pX5_mean_b105 at hp
  exact ww_iret X hp dX5_mean_105
set_option maxHeartbeats 4000000 in
set_option maxRecDepth 100000 in
theorem wX5_mean_b89 {p : Program} {l : Launch} {e : Env} {s : State} {m : MethodId} {args : Array Value} {below : List Frame} {meth : Method} {c : Code} {D : va_G} {A : Nat → Prop} {ad : Nat → Nat} {cB cI cZ : ClassId} {post : Int32 → Sg → Prop}  (X : Cx p s m args meth c cX5_mean 7 (some .int) RX5 wsX5_mean D (tyL cB cI cZ) A)  (x4 x5 : Int32) (z : Sg) (hp : pX5_mean_b89  post x4 x5 z) : WW p l e rmX5_mean s m args below meth c 7 D A (mW ad cB cI cZ) (QI below args s D (tyL cB cI cZ) (mW ad cB cI cZ) A post) z 89 [(0, .ref (ad 0)), (4, .int x4), (5, .int x5)] [] := by
  unfold pX5_mean_b89 at hp
  refine ww_iload X dX5_mean_89 2 rfl ?_
  refine ww_if_ne X (tgt := 98) dX5_mean_91 (by decide) (fun h1 => ?_) (fun h1 => ?_)
  · have hp := hp.1 h1
    refine ww_iload X dX5_mean_98 1 rfl ?_
    refine ww_iload X dX5_mean_100 2 rfl ?_
    refine ww_callS_i X (As := [.int x4, .int x5]) (rest := []) (kX5_nearest l D ad cB cI cZ x4 x5 z _ hp) (va_cwS 2 X.hts gX5_mean_X5_nearest rfl rfl rfl hn_X5_nearest ⟨Nat.le_of_ble_eq_true rfl, Nat.le_of_ble_eq_true rfl⟩) rfl rfl (Nat.le_of_ble_eq_true rfl) dX5_mean_102 (fun r3 u2 hp => ?_)
    exact ww_sub (lv' := [(0, .ref (ad 0))]) [0] rfl (wX5_mean_b105 X  r3 u2 hp)
  · have hp := hp.2 h1
    refine ww_iconst X (v := 0) dX5_mean_94 (by decide) ?_
    refine ww_goto X (tgt := 105) dX5_mean_95 (by decide) ?_
    exact ww_sub (lv' := [(0, .ref (ad 0))]) [0] rfl (wX5_mean_b105 X  0 z hp)
set_option maxHeartbeats 4000000 in
set_option maxRecDepth 100000 in
theorem wX5_mean_b83 {p : Program} {l : Launch} {e : Env} {s : State} {m : MethodId} {args : Array Value} {below : List Frame} {meth : Method} {c : Code} {D : va_G} {A : Nat → Prop} {ad : Nat → Nat} {cB cI cZ : ClassId} {post : Int32 → Sg → Prop} {K17 : Int32 → Int32 → Int32 → Int32 → Sg → Prop} (X : Cx p s m args meth c cX5_mean 7 (some .int) RX5 wsX5_mean D (tyL cB cI cZ) A) (hK17 : ∀ (x3 x4 x5 x6 : Int32) (z : Sg), K17 x3 x4 x5 x6 z → WW p l e rmX5_mean s m args below meth c 7 D A (mW ad cB cI cZ) (QI below args s D (tyL cB cI cZ) (mW ad cB cI cZ) A post) z 17 [(0, .ref (ad 0)), (3, .int x3), (4, .int x4), (5, .int x5), (6, .int x6)] []) (x3 x4 x5 x6 : Int32) (z : Sg) (hp : pX5_mean_b83 K17 post x3 x4 x5 x6 z) : WW p l e rmX5_mean s m args below meth c 7 D A (mW ad cB cI cZ) (QI below args s D (tyL cB cI cZ) (mW ad cB cI cZ) A post) z 83 [(0, .ref (ad 0)), (3, .int x3), (4, .int x4), (5, .int x5), (6, .int x6)] [] := by
  unfold pX5_mean_b83 at hp
  refine ww_iinc X (v := (x6 + 1)) (lv' := [(6, .int (x6 + 1)), (0, .ref (ad 0)), (3, .int x3), (4, .int x4), (5, .int x5)]) dX5_mean_83 4 rfl rfl (by decide) rfl ?_
  refine ww_goto X (tgt := 17) dX5_mean_86 (by decide) ?_
  exact ww_sub (lv' := [(0, .ref (ad 0)), (3, .int x3), (4, .int x4), (5, .int x5), (6, .int (x6 + 1))]) [1, 2, 3, 4, 0] rfl (hK17 x3 x4 x5 (x6 + 1) z hp)
set_option maxHeartbeats 4000000 in
set_option maxRecDepth 100000 in
theorem wX5_mean_b17 {p : Program} {l : Launch} {e : Env} {s : State} {m : MethodId} {args : Array Value} {below : List Frame} {meth : Method} {c : Code} {D : va_G} {A : Nat → Prop} {ad : Nat → Nat} {cB cI cZ : ClassId} {post : Int32 → Sg → Prop} {K17 : Int32 → Int32 → Int32 → Int32 → Sg → Prop} (X : Cx p s m args meth c cX5_mean 7 (some .int) RX5 wsX5_mean D (tyL cB cI cZ) A) (hK17 : ∀ (x3 x4 x5 x6 : Int32) (z : Sg), K17 x3 x4 x5 x6 z → WW p l e rmX5_mean s m args below meth c 7 D A (mW ad cB cI cZ) (QI below args s D (tyL cB cI cZ) (mW ad cB cI cZ) A post) z 17 [(0, .ref (ad 0)), (3, .int x3), (4, .int x4), (5, .int x5), (6, .int x6)] []) (x3 x4 x5 x6 : Int32) (z : Sg) (hp : pX5_mean_b17 K17 post x3 x4 x5 x6 z) : WW p l e rmX5_mean s m args below meth c 7 D A (mW ad cB cI cZ) (QI below args s D (tyL cB cI cZ) (mW ad cB cI cZ) A post) z 17 [(0, .ref (ad 0)), (3, .int x3), (4, .int x4), (5, .int x5), (6, .int x6)] [] := by
  unfold pX5_mean_b17 at hp
  refine ww_iload X dX5_mean_17 4 rfl ?_
  refine ww_iconst X (v := 5) dX5_mean_19 (by decide) ?_
  refine ww_icmp_ge X (tgt := 89) dX5_mean_20 (by decide) (fun h1 => ?_) (fun h1 => ?_)
  · have hp := hp.1 h1
    exact ww_sub (lv' := [(0, .ref (ad 0)), (4, .int x4), (5, .int x5)]) [0, 2, 3] rfl (wX5_mean_b89 X  x4 x5 z hp)
  · have hp := hp.2 h1
    refine ww_iload_n X dX5_mean_23 1 rfl ?_
    refine ww_if_lt X (tgt := 89) dX5_mean_24 (by decide) (fun h2 => ?_) (fun h2 => ?_)
    · have hp := hp.1 h2
      exact ww_sub (lv' := [(0, .ref (ad 0)), (4, .int x4), (5, .int x5)]) [0, 2, 3] rfl (wX5_mean_b89 X  x4 x5 z hp)
    · have hp := hp.2 h2
      refine ww_aload_n X dX5_mean_27 0 rfl ?_
      refine ww_get X in_X5_mean_X5 0 mg_0 rfl 13 (by decide) (X.wd 1 rfl) (v := .ref (ad 9)) rfl dX5_mean_28 ?_
      refine ww_iconst X (v := 5) dX5_mean_31 (by decide) ?_
      refine ww_iload_n X dX5_mean_32 1 rfl ?_
      refine ww_imul X dX5_mean_33 ?_
      refine ww_iload X dX5_mean_34 4 rfl ?_
      refine ww_iadd X dX5_mean_36 ?_
      obtain ⟨h3, hp⟩ := hp
      refine ww_iald X 9 1 mg_9 rfl (v := (gA z 8 ((5 * x3) + x6))) h3 rfl dX5_mean_37 ?_
      refine ww_sipush X (v := (-10000)) dX5_mean_38 (by decide) ?_
      refine ww_icmp_ne X (tgt := 47) dX5_mean_41 (by decide) (fun h4 => ?_) (fun h4 => ?_)
      · have hp := hp.1 h4
        refine ww_iload X dX5_mean_47 2 rfl ?_
        refine ww_aload_n X dX5_mean_49 0 rfl ?_
        refine ww_get X in_X5_mean_X5 0 mg_0 rfl 10 (by decide) (X.wd 2 rfl) (v := .ref (ad 6)) rfl dX5_mean_50 ?_
        refine ww_iload X dX5_mean_53 4 rfl ?_
        obtain ⟨h5, hp⟩ := hp
        refine ww_iald X 6 1 mg_6 rfl (v := (gA z 5 x6)) h5 rfl dX5_mean_55 ?_
        refine ww_aload_n X dX5_mean_56 0 rfl ?_
        refine ww_get X in_X5_mean_X5 0 mg_0 rfl 13 (by decide) (X.wd 1 rfl) (v := .ref (ad 9)) rfl dX5_mean_57 ?_
        refine ww_iconst X (v := 5) dX5_mean_60 (by decide) ?_
        refine ww_iload_n X dX5_mean_61 1 rfl ?_
        refine ww_imul X dX5_mean_62 ?_
        refine ww_iload X dX5_mean_63 4 rfl ?_
        refine ww_iadd X dX5_mean_65 ?_
        obtain ⟨h6, hp⟩ := hp
        refine ww_iald X 9 1 mg_9 rfl (v := (gA z 8 ((5 * x3) + x6))) h6 rfl dX5_mean_66 ?_
        refine ww_imul X dX5_mean_67 ?_
        refine ww_iadd X dX5_mean_68 ?_
        refine ww_top (fun v7 hv7 => ?_)
        have hp := hp v7 hv7
        refine ww_istore X (lv' := [(4, .int v7), (0, .ref (ad 0)), (3, .int x3), (5, .int x5), (6, .int x6)]) dX5_mean_69 (by decide) rfl ?_
        refine ww_iload X dX5_mean_71 3 rfl ?_
        refine ww_aload_n X dX5_mean_73 1 rfl ?_
        refine ww_get X in_X5_mean_X5 0 mg_0 rfl 10 (by decide) (X.wd 2 rfl) (v := .ref (ad 6)) rfl dX5_mean_74 ?_
        refine ww_iload X dX5_mean_77 4 rfl ?_
        obtain ⟨h8, hp⟩ := hp
        refine ww_iald X 6 1 mg_6 rfl (v := (gA z 5 x6)) h8 rfl dX5_mean_79 ?_
        refine ww_iadd X dX5_mean_80 ?_
        refine ww_top (fun v9 hv9 => ?_)
        have hp := hp v9 hv9
        refine ww_istore X (lv' := [(5, .int v9), (4, .int v7), (0, .ref (ad 0)), (3, .int x3), (6, .int x6)]) dX5_mean_81 (by decide) rfl ?_
        exact ww_sub (lv' := [(0, .ref (ad 0)), (3, .int x3), (4, .int v7), (5, .int v9), (6, .int x6)]) [2, 3, 1, 0, 4] rfl (wX5_mean_b83 X hK17 x3 v7 v9 x6 z hp)
      · have hp := hp.2 h4
        refine ww_goto X (tgt := 83) dX5_mean_44 (by decide) ?_
        exact wX5_mean_b83 X hK17 x3 x4 x5 x6 z hp
set_option maxHeartbeats 4000000 in
set_option maxRecDepth 100000 in
theorem wX5_mean_l17 {p : Program} {l : Launch} {e : Env} {s : State} {m : MethodId} {args : Array Value} {below : List Frame} {meth : Method} {c : Code} {D : va_G} {A : Nat → Prop} {ad : Nat → Nat} {cB cI cZ : ClassId} {post : Int32 → Sg → Prop}  (X : Cx p s m args meth c cX5_mean 7 (some .int) RX5 wsX5_mean D (tyL cB cI cZ) A)  (x3 x4 x5 x6 : Int32) (z : Sg) (hp : pX5_mean_l17  post x3 x4 x5 x6 z) : WW p l e rmX5_mean s m args below meth c 7 D A (mW ad cB cI cZ) (QI below args s D (tyL cB cI cZ) (mW ad cB cI cZ) A post) z 17 [(0, .ref (ad 0)), (3, .int x3), (4, .int x4), (5, .int x5), (6, .int x6)] [] := by
  have key := lp_walk (F := (fun (K : Int32 × Int32 × Int32 × Int32 → Sg → Prop) (a : Int32 × Int32 × Int32 × Int32) (z : Sg) => pX5_mean_b17 (fun (x3 x4 x5 x6 : Int32) z => K (x3, x4, x5, x6) z) post a.1 a.2.1 a.2.2.1 a.2.2.2 z)) (P := fun a z => WW p l e rmX5_mean s m args below meth c 7 D A (mW ad cB cI cZ) (QI below args s D (tyL cB cI cZ) (mW ad cB cI cZ) A post) z 17 [(0, .ref (ad 0)), (3, .int a.1), (4, .int a.2.1), (5, .int a.2.2.1), (6, .int a.2.2.2)] []) (fun K hK a z hp => wX5_mean_b17 X (fun x3 x4 x5 x6 z h => hK (x3, x4, x5, x6) z h) a.1 a.2.1 a.2.2.1 a.2.2.2 z hp)
  exact key (x3, x4, x5, x6) z hp
set_option maxHeartbeats 4000000 in
set_option maxRecDepth 100000 in
theorem kX5_mean (l : Launch) (D : va_G) (ad : Nat → Nat) (cB cI cZ : ClassId) (a1 a2 : Int32) (z : Sg) (post : Int32 → Sg → Prop) (hp : pX5_mean a1 a2 z post) : Ci l D (tyL cB cI cZ) (mW ad cB cI cZ) yX5_mean wsX5_mean rmX5_mean [.ref (ad 0), .int a1, .int a2] z post := by
  refine Ci.of (cc := cX5_mean) (maxL := 7) (ret := (some .int)) (by decide) rfl (Nat.le_of_ble_eq_true rfl) ?_
  intro p e s m args below meth c A X
  have X : Cx p s m args meth c cX5_mean 7 (some .int) RX5 wsX5_mean D (tyL cB cI cZ) A := X
  show WW p l e rmX5_mean s m args below meth c 7 D A (mW ad cB cI cZ) (QI below args s D (tyL cB cI cZ) (mW ad cB cI cZ) A post) z 0 [(0, .ref (ad 0)), (1, .int a1), (2, .int a2)] []
  unfold pX5_mean at hp
  refine ww_aload_n X dX5_mean_0 0 rfl ?_
  refine ww_iload_n X dX5_mean_1 1 rfl ?_
  refine ww_iconst X (v := 1) dX5_mean_2 (by decide) ?_
  refine ww_iload_n X dX5_mean_3 2 rfl ?_
  refine ww_callV_i X (As := [.int a1, .int 1, .int a2]) (rest := []) (kX5_lastOf l D ad cB cI cZ a1 1 a2 z _ hp) (cwV 3 X.hts gX5_mean_X5_lastOf rfl rfl rfl hd_X5_lastOf ⟨Nat.le_of_ble_eq_true rfl, Nat.le_of_ble_eq_true rfl⟩) 0 5 mg_0 rfl rfl rfl rfl (Nat.le_of_ble_eq_true rfl) dX5_mean_4 (fun r2 u1 hp => ?_)
  refine ww_istore_n X (lv' := [(3, .int r2), (0, .ref (ad 0)), (1, .int a1), (2, .int a2)]) dX5_mean_7 (by decide) rfl ?_
  refine ww_iconst X (v := 0) dX5_mean_8 (by decide) ?_
  refine ww_istore X (lv' := [(4, .int 0), (3, .int r2), (0, .ref (ad 0)), (1, .int a1), (2, .int a2)]) dX5_mean_9 (by decide) rfl ?_
  refine ww_iconst X (v := 0) dX5_mean_11 (by decide) ?_
  refine ww_istore X (lv' := [(5, .int 0), (4, .int 0), (3, .int r2), (0, .ref (ad 0)), (1, .int a1), (2, .int a2)]) dX5_mean_12 (by decide) rfl ?_
  refine ww_iconst X (v := 0) dX5_mean_14 (by decide) ?_
  refine ww_istore X (lv' := [(6, .int 0), (5, .int 0), (4, .int 0), (3, .int r2), (0, .ref (ad 0)), (1, .int a1), (2, .int a2)]) dX5_mean_15 (by decide) rfl ?_
  exact ww_sub (lv' := [(0, .ref (ad 0)), (3, .int r2), (4, .int 0), (5, .int 0), (6, .int 0)]) [4, 3, 2, 1, 0] rfl (wX5_mean_l17 X  r2 0 0 0 u1 hp)
set_option maxHeartbeats 4000000 in
set_option maxRecDepth 100000 in
theorem wX5_style__b83 {p : Program} {l : Launch} {e : Env} {s : State} {m : MethodId} {args : Array Value} {below : List Frame} {meth : Method} {c : Code} {D : va_G} {A : Nat → Prop} {ad : Nat → Nat} {cB cI cZ : ClassId} {post : Int32 → Sg → Prop} {K27 : Int32 → Int32 → Int32 → Int32 → Int32 → Sg → Prop} (X : Cx p s m args meth c cX5_style_ 9 (some .int) RX5 wsX5_style_ D (tyL cB cI cZ) A) (hK27 : ∀ (x3 x4 x5 x6 x7 : Int32) (z : Sg), K27 x3 x4 x5 x6 x7 z → WW p l e rmX5_style_ s m args below meth c 9 D A (mW ad cB cI cZ) (QI below args s D (tyL cB cI cZ) (mW ad cB cI cZ) A post) z 27 [(0, .ref (ad 0)), (3, .int x3), (4, .int x4), (5, .int x5), (6, .int x6), (7, .int x7)] []) (x3 x4 x5 x7 y0 : Int32) (z : Sg) (hp : pX5_style__b83 K27 post x3 x4 x5 x7 y0 z) : WW p l e rmX5_style_ s m args below meth c 9 D A (mW ad cB cI cZ) (QI below args s D (tyL cB cI cZ) (mW ad cB cI cZ) A post) z 83 [(0, .ref (ad 0)), (3, .int x3), (4, .int x4), (5, .int x5), (7, .int x7)] [.int y0] := by
  unfold pX5_style__b83 at hp
  refine ww_istore X (lv' := [(6, .int y0), (0, .ref (ad 0)), (3, .int x3), (4, .int x4), (5, .int x5), (7, .int x7)]) dX5_style__83 (by decide) rfl ?_
  refine ww_iinc X (v := (x7 + 1)) (lv' := [(7, .int (x7 + 1)), (6, .int y0), (0, .ref (ad 0)), (3, .int x3), (4, .int x4), (5, .int x5)]) dX5_style__85 5 rfl rfl (by decide) rfl ?_
  refine ww_goto X (tgt := 27) dX5_style__88 (by decide) ?_
  exact ww_sub (lv' := [(0, .ref (ad 0)), (3, .int x3), (4, .int x4), (5, .int x5), (6, .int y0), (7, .int (x7 + 1))]) [2, 3, 4, 5, 1, 0] rfl (hK27 x3 x4 x5 y0 (x7 + 1) z hp)
set_option maxHeartbeats 4000000 in
set_option maxRecDepth 100000 in
theorem wX5_style__b67 {p : Program} {l : Launch} {e : Env} {s : State} {m : MethodId} {args : Array Value} {below : List Frame} {meth : Method} {c : Code} {D : va_G} {A : Nat → Prop} {ad : Nat → Nat} {cB cI cZ : ClassId} {post : Int32 → Sg → Prop} {K27 : Int32 → Int32 → Int32 → Int32 → Int32 → Sg → Prop} (X : Cx p s m args meth c cX5_style_ 9 (some .int) RX5 wsX5_style_ D (tyL cB cI cZ) A) (hK27 : ∀ (x3 x4 x5 x6 x7 : Int32) (z : Sg), K27 x3 x4 x5 x6 x7 z → WW p l e rmX5_style_ s m args below meth c 9 D A (mW ad cB cI cZ) (QI below args s D (tyL cB cI cZ) (mW ad cB cI cZ) A post) z 27 [(0, .ref (ad 0)), (3, .int x3), (4, .int x4), (5, .int x5), (6, .int x6), (7, .int x7)] []) (x3 x4 x6 x7 x8 y0 : Int32) (z : Sg) (hp : pX5_style__b67 K27 post x3 x4 x6 x7 x8 y0 z) : WW p l e rmX5_style_ s m args below meth c 9 D A (mW ad cB cI cZ) (QI below args s D (tyL cB cI cZ) (mW ad cB cI cZ) A post) z 67 [(0, .ref (ad 0)), (3, .int x3), (4, .int x4), (6, .int x6), (7, .int x7), (8, .int x8)] [.int y0] := by
  unfold pX5_style__b67 at hp
  refine ww_istore X (lv' := [(5, .int y0), (0, .ref (ad 0)), (3, .int x3), (4, .int x4), (6, .int x6), (7, .int x7), (8, .int x8)]) dX5_style__67 (by decide) rfl ?_
  refine ww_iload X dX5_style__69 6 rfl ?_
  refine ww_iload X dX5_style__71 4 rfl ?_
  refine ww_icmp_le X (tgt := 81) dX5_style__73 (by decide) (fun h1 => ?_) (fun h1 => ?_)
  · have hp := hp.1 h1
    refine ww_iload X dX5_style__81 4 rfl ?_
    exact ww_sub (lv' := [(0, .ref (ad 0)), (3, .int x3), (4, .int x4), (5, .int y0), (7, .int x7)]) [1, 2, 3, 0, 5] rfl (wX5_style__b83 X hK27 x3 x4 y0 x7 x6 z hp)
  · have hp := hp.2 h1
    refine ww_iload X dX5_style__76 6 rfl ?_
    refine ww_goto X (tgt := 83) dX5_style__78 (by decide) ?_
    exact ww_sub (lv' := [(0, .ref (ad 0)), (3, .int x3), (4, .int x4), (5, .int y0), (7, .int x7)]) [1, 2, 3, 0, 5] rfl (wX5_style__b83 X hK27 x3 x4 y0 x7 x8 z hp)
set_option maxHeartbeats 4000000 in
set_option maxRecDepth 100000 in
theorem wX5_style__b27 {p : Program} {l : Launch} {e : Env} {s : State} {m : MethodId} {args : Array Value} {below : List Frame} {meth : Method} {c : Code} {D : va_G} {A : Nat → Prop} {ad : Nat → Nat} {cB cI cZ : ClassId} {post : Int32 → Sg → Prop} {K27 : Int32 → Int32 → Int32 → Int32 → Int32 → Sg → Prop} (X : Cx p s m args meth c cX5_style_ 9 (some .int) RX5 wsX5_style_ D (tyL cB cI cZ) A) (hK27 : ∀ (x3 x4 x5 x6 x7 : Int32) (z : Sg), K27 x3 x4 x5 x6 x7 z → WW p l e rmX5_style_ s m args below meth c 9 D A (mW ad cB cI cZ) (QI below args s D (tyL cB cI cZ) (mW ad cB cI cZ) A post) z 27 [(0, .ref (ad 0)), (3, .int x3), (4, .int x4), (5, .int x5), (6, .int x6), (7, .int x7)] []) (x3 x4 x5 x6 x7 : Int32) (z : Sg) (hp : pX5_style__b27 K27 post x3 x4 x5 x6 x7 z) : WW p l e rmX5_style_ s m args below meth c 9 D A (mW ad cB cI cZ) (QI below args s D (tyL cB cI cZ) (mW ad cB cI cZ) A post) z 27 [(0, .ref (ad 0)), (3, .int x3), (4, .int x4), (5, .int x5), (6, .int x6), (7, .int x7)] [] := by
  unfold pX5_style__b27 at hp
  refine ww_iload X dX5_style__27 5 rfl ?_
  refine ww_iconst X (v := 5) dX5_style__29 (by decide) ?_
  refine ww_icmp_ge X (tgt := 91) dX5_style__30 (by decide) (fun h1 => ?_) (fun h1 => ?_)
  · have hp := hp.1 h1
    refine ww_bipush X (v := 10) dX5_style__91 (by decide) ?_
    refine ww_iload X dX5_style__93 2 rfl ?_
    refine ww_iload X dX5_style__95 3 rfl ?_
    refine ww_isub X dX5_style__97 ?_
    refine ww_iload X dX5_style__98 4 rfl ?_
    refine ww_isub X dX5_style__100 ?_
    refine ww_imul X dX5_style__101 ?_
    exact ww_iret X hp dX5_style__102
  · have hp := hp.2 h1
    refine ww_aload_n X dX5_style__33 0 rfl ?_
    refine ww_get X in_X5_style__X5 0 mg_0 rfl 13 (by decide) (X.wd 1 rfl) (v := .ref (ad 9)) rfl dX5_style__34 ?_
    refine ww_iconst X (v := 5) dX5_style__37 (by decide) ?_
    refine ww_iload_n X dX5_style__38 1 rfl ?_
    refine ww_imul X dX5_style__39 ?_
    refine ww_iload X dX5_style__40 5 rfl ?_
    refine ww_iadd X dX5_style__42 ?_
    obtain ⟨h2, hp⟩ := hp
    refine ww_iald X 9 1 mg_9 rfl (v := (gA z 8 ((5 * x3) + x7))) h2 rfl dX5_style__43 ?_
    refine ww_top (fun v3 hv3 => ?_)
    have hp := hp v3 hv3
    refine ww_istore X (lv' := [(8, .int v3), (0, .ref (ad 0)), (3, .int x3), (4, .int x4), (5, .int x5), (6, .int x6), (7, .int x7)]) dX5_style__44 (by decide) rfl ?_
    refine ww_iload X dX5_style__46 3 rfl ?_
    refine ww_iload X dX5_style__48 0 rfl ?_
    refine ww_iadd X dX5_style__50 ?_
    refine ww_top (fun v4 hv4 => ?_)
    have hp := hp v4 hv4
    refine ww_istore X (lv' := [(4, .int v4), (8, .int v3), (0, .ref (ad 0)), (3, .int x3), (5, .int x5), (6, .int x6), (7, .int x7)]) dX5_style__51 (by decide) rfl ?_
    refine ww_iload X dX5_style__53 1 rfl ?_
    refine ww_iload X dX5_style__55 4 rfl ?_
    refine ww_icmp_ge X (tgt := 65) dX5_style__57 (by decide) (fun h5 => ?_) (fun h5 => ?_)
    · have hp := hp.1 h5
      refine ww_iload X dX5_style__65 4 rfl ?_
      exact ww_sub (lv' := [(0, .ref (ad 0)), (3, .int x3), (4, .int v4), (6, .int x6), (7, .int x7), (8, .int v3)]) [2, 3, 0, 5, 6, 1] rfl (wX5_style__b67 X hK27 x3 v4 x6 x7 v3 x5 z hp)
    · have hp := hp.2 h5
      refine ww_iload X dX5_style__60 1 rfl ?_
      refine ww_goto X (tgt := 67) dX5_style__62 (by decide) ?_
      exact ww_sub (lv' := [(0, .ref (ad 0)), (3, .int x3), (4, .int v4), (6, .int x6), (7, .int x7), (8, .int v3)]) [2, 3, 0, 5, 6, 1] rfl (wX5_style__b67 X hK27 x3 v4 x6 x7 v3 v3 z hp)
set_option maxHeartbeats 4000000 in
set_option maxRecDepth 100000 in
theorem wX5_style__l27 {p : Program} {l : Launch} {e : Env} {s : State} {m : MethodId} {args : Array Value} {below : List Frame} {meth : Method} {c : Code} {D : va_G} {A : Nat → Prop} {ad : Nat → Nat} {cB cI cZ : ClassId} {post : Int32 → Sg → Prop}  (X : Cx p s m args meth c cX5_style_ 9 (some .int) RX5 wsX5_style_ D (tyL cB cI cZ) A)  (x3 x4 x5 x6 x7 : Int32) (z : Sg) (hp : pX5_style__l27  post x3 x4 x5 x6 x7 z) : WW p l e rmX5_style_ s m args below meth c 9 D A (mW ad cB cI cZ) (QI below args s D (tyL cB cI cZ) (mW ad cB cI cZ) A post) z 27 [(0, .ref (ad 0)), (3, .int x3), (4, .int x4), (5, .int x5), (6, .int x6), (7, .int x7)] [] := by
  have key := lp_walk (F := (fun (K : Int32 × Int32 × Int32 × Int32 × Int32 → Sg → Prop) (a : Int32 × Int32 × Int32 × Int32 × Int32) (z : Sg) => pX5_style__b27 (fun (x3 x4 x5 x6 x7 : Int32) z => K (x3, x4, x5, x6, x7) z) post a.1 a.2.1 a.2.2.1 a.2.2.2.1 a.2.2.2.2 z)) (P := fun a z => WW p l e rmX5_style_ s m args below meth c 9 D A (mW ad cB cI cZ) (QI below args s D (tyL cB cI cZ) (mW ad cB cI cZ) A post) z 27 [(0, .ref (ad 0)), (3, .int a.1), (4, .int a.2.1), (5, .int a.2.2.1), (6, .int a.2.2.2.1), (7, .int a.2.2.2.2)] []) (fun K hK a z hp => wX5_style__b27 X (fun x3 x4 x5 x6 x7 z h => hK (x3, x4, x5, x6, x7) z h) a.1 a.2.1 a.2.2.1 a.2.2.2.1 a.2.2.2.2 z hp)
  exact key (x3, x4, x5, x6, x7) z hp
set_option maxHeartbeats 4000000 in
set_option maxRecDepth 100000 in
theorem kX5_style_ (l : Launch) (D : va_G) (ad : Nat → Nat) (cB cI cZ : ClassId) (a1 a2 : Int32) (z : Sg) (post : Int32 → Sg → Prop) (hp : pX5_style_ a1 a2 z post) : Ci l D (tyL cB cI cZ) (mW ad cB cI cZ) yX5_style_ wsX5_style_ rmX5_style_ [.ref (ad 0), .int a1, .int a2] z post := by
  refine Ci.of (cc := cX5_style_) (maxL := 9) (ret := (some .int)) (by decide) rfl (Nat.le_of_ble_eq_true rfl) ?_
  intro p e s m args below meth c A X
  have X : Cx p s m args meth c cX5_style_ 9 (some .int) RX5 wsX5_style_ D (tyL cB cI cZ) A := X
  show WW p l e rmX5_style_ s m args below meth c 9 D A (mW ad cB cI cZ) (QI below args s D (tyL cB cI cZ) (mW ad cB cI cZ) A post) z 0 [(0, .ref (ad 0)), (1, .int a1), (2, .int a2)] []
  unfold pX5_style_ at hp
  refine ww_aload_n X dX5_style__0 0 rfl ?_
  refine ww_iload_n X dX5_style__1 1 rfl ?_
  refine ww_iconst X (v := 2) dX5_style__2 (by decide) ?_
  refine ww_iload_n X dX5_style__3 2 rfl ?_
  refine ww_callV_i X (As := [.int a1, .int 2, .int a2]) (rest := []) (kX5_lastOf l D ad cB cI cZ a1 2 a2 z _ hp) (cwV 3 X.hts gX5_style__X5_lastOf rfl rfl rfl hd_X5_lastOf ⟨Nat.le_of_ble_eq_true rfl, Nat.le_of_ble_eq_true rfl⟩) 0 5 mg_0 rfl rfl rfl rfl (Nat.le_of_ble_eq_true rfl) dX5_style__4 (fun r2 u1 hp => ?_)
  refine ww_istore_n X (lv' := [(3, .int r2), (0, .ref (ad 0)), (1, .int a1), (2, .int a2)]) dX5_style__7 (by decide) rfl ?_
  refine ww_iload_n X dX5_style__8 0 rfl ?_
  refine ww_if_ge X (tgt := 14) dX5_style__9 (by decide) (fun h3 => ?_) (fun h3 => ?_)
  · have hp := hp.1 h3
    refine ww_iconst X (v := 0) dX5_style__14 (by decide) ?_
    refine ww_istore X (lv' := [(4, .int 0), (3, .int r2), (0, .ref (ad 0)), (1, .int a1), (2, .int a2)]) dX5_style__15 (by decide) rfl ?_
    refine ww_bipush X (v := 40) dX5_style__17 (by decide) ?_
    refine ww_istore X (lv' := [(5, .int 40), (4, .int 0), (3, .int r2), (0, .ref (ad 0)), (1, .int a1), (2, .int a2)]) dX5_style__19 (by decide) rfl ?_
    refine ww_iconst X (v := 0) dX5_style__21 (by decide) ?_
    refine ww_istore X (lv' := [(6, .int 0), (5, .int 40), (4, .int 0), (3, .int r2), (0, .ref (ad 0)), (1, .int a1), (2, .int a2)]) dX5_style__22 (by decide) rfl ?_
    refine ww_iconst X (v := 0) dX5_style__24 (by decide) ?_
    refine ww_istore X (lv' := [(7, .int 0), (6, .int 0), (5, .int 40), (4, .int 0), (3, .int r2), (0, .ref (ad 0)), (1, .int a1), (2, .int a2)]) dX5_style__25 (by decide) rfl ?_
    exact ww_sub (lv' := [(0, .ref (ad 0)), (3, .int r2), (4, .int 0), (5, .int 40), (6, .int 0), (7, .int 0)]) [5, 4, 3, 2, 1, 0] rfl (wX5_style__l27 X  r2 0 40 0 0 u1 hp)
  · have hp := hp.2 h3
    refine ww_iconst X (v := 0) dX5_style__12 (by decide) ?_
    exact ww_iret X hp dX5_style__13
set_option maxHeartbeats 4000000 in
set_option maxRecDepth 100000 in
theorem wX5_part_b139 {p : Program} {l : Launch} {e : Env} {s : State} {m : MethodId} {args : Array Value} {below : List Frame} {meth : Method} {c : Code} {D : va_G} {A : Nat → Prop} {ad : Nat → Nat} {cB cI cZ : ClassId} {post : Int32 → Sg → Prop}  (X : Cx p s m args meth c cX5_part 5 (some .int) RX5 wsX5_part D (tyL cB cI cZ) A)  (y0 : Int32) (z : Sg) (hp : pX5_part_b139  post y0 z) : WW p l e rmX5_part s m args below meth c 5 D A (mW ad cB cI cZ) (QI below args s D (tyL cB cI cZ) (mW ad cB cI cZ) A post) z 139 [(0, .ref (ad 0))] [.int y0] := by
  unfold pX5_part_b139 at hp
  exact ww_iret X hp dX5_part_139
set_option maxHeartbeats 4000000 in
set_option maxRecDepth 100000 in
theorem wX5_part_b116 {p : Program} {l : Launch} {e : Env} {s : State} {m : MethodId} {args : Array Value} {below : List Frame} {meth : Method} {c : Code} {D : va_G} {A : Nat → Prop} {ad : Nat → Nat} {cB cI cZ : ClassId} {post : Int32 → Sg → Prop}  (X : Cx p s m args meth c cX5_part 5 (some .int) RX5 wsX5_part D (tyL cB cI cZ) A)  (x4 : Int32) (z : Sg) (hp : pX5_part_b116  post x4 z) : WW p l e rmX5_part s m args below meth c 5 D A (mW ad cB cI cZ) (QI below args s D (tyL cB cI cZ) (mW ad cB cI cZ) A post) z 116 [(0, .ref (ad 0)), (4, .int x4)] [] := by
  unfold pX5_part_b116 at hp
  refine ww_iconst X (v := 2) dX5_part_116 (by decide) ?_
  refine ww_aload_n X dX5_part_117 0 rfl ?_
  refine ww_get X in_X5_part_X5 0 mg_0 rfl 2 (by decide) (X.wd 1 rfl) (v := .ref (ad 2)) rfl dX5_part_118 ?_
  refine ww_iconst X (v := 3) dX5_part_121 (by decide) ?_
  obtain ⟨h1, hp⟩ := hp
  refine ww_iald X 2 1 mg_2 rfl (v := (gA z 1 3)) h1 rfl dX5_part_122 ?_
  refine ww_imul X dX5_part_123 ?_
  refine ww_aload_n X dX5_part_124 0 rfl ?_
  refine ww_get X in_X5_part_X5 0 mg_0 rfl 7 (by decide) (X.wd 3 rfl) (v := .int (z.1 4)) rfl dX5_part_125 ?_
  refine ww_aload_n X dX5_part_128 0 rfl ?_
  refine ww_get X in_X5_part_X5 0 mg_0 rfl 13 (by decide) (X.wd 2 rfl) (v := .ref (ad 9)) rfl dX5_part_129 ?_
  refine ww_iload X dX5_part_132 1 rfl ?_
  refine ww_iconst X (v := 1) dX5_part_134 (by decide) ?_
  refine ww_iadd X dX5_part_135 ?_
  obtain ⟨h2, hp⟩ := hp
  refine ww_iald X 9 1 mg_9 rfl (v := (gA z 8 (x4 + 1))) h2 rfl dX5_part_136 ?_
  refine ww_isub X dX5_part_137 ?_
  refine ww_imul X dX5_part_138 ?_
  exact ww_sub (lv' := [(0, .ref (ad 0))]) [0] rfl (wX5_part_b139 X  ((2 * (gA z 1 3)) * ((z.1 4) - (gA z 8 (x4 + 1)))) z hp)
set_option maxHeartbeats 4000000 in
set_option maxRecDepth 100000 in
theorem kX5_part (l : Launch) (D : va_G) (ad : Nat → Nat) (cB cI cZ : ClassId) (a1 a2 a3 : Int32) (z : Sg) (post : Int32 → Sg → Prop) (hp : pX5_part a1 a2 a3 z post) : Ci l D (tyL cB cI cZ) (mW ad cB cI cZ) yX5_part wsX5_part rmX5_part [.ref (ad 0), .int a1, .int a2, .int a3] z post := by
  refine Ci.of (cc := cX5_part) (maxL := 5) (ret := (some .int)) (by decide) rfl (Nat.le_of_ble_eq_true rfl) ?_
  intro p e s m args below meth c A X
  have X : Cx p s m args meth c cX5_part 5 (some .int) RX5 wsX5_part D (tyL cB cI cZ) A := X
  show WW p l e rmX5_part s m args below meth c 5 D A (mW ad cB cI cZ) (QI below args s D (tyL cB cI cZ) (mW ad cB cI cZ) A post) z 0 [(0, .ref (ad 0)), (1, .int a1), (2, .int a2), (3, .int a3)] []
  unfold pX5_part at hp
  refine ww_iconst X (v := 5) dX5_part_0 (by decide) ?_
  refine ww_aload_n X dX5_part_1 0 rfl ?_
  refine ww_iload_n X dX5_part_2 1 rfl ?_
  refine ww_iconst X (v := 0) dX5_part_3 (by decide) ?_
  refine ww_iload_n X dX5_part_4 2 rfl ?_
  refine ww_callV_i X (As := [.int a1, .int 0, .int a2]) (rest := [.int 5]) (kX5_lastOf l D ad cB cI cZ a1 0 a2 z _ hp) (cwV 3 X.hts gX5_part_X5_lastOf rfl rfl rfl hd_X5_lastOf ⟨Nat.le_of_ble_eq_true rfl, Nat.le_of_ble_eq_true rfl⟩) 0 5 mg_0 rfl rfl rfl rfl (Nat.le_of_ble_eq_true rfl) dX5_part_5 (fun r2 u1 hp => ?_)
  refine ww_imul X dX5_part_8 ?_
  refine ww_top (fun v3 hv3 => ?_)
  have hp := hp v3 hv3
  refine ww_istore X (lv' := [(4, .int v3), (0, .ref (ad 0)), (1, .int a1), (2, .int a2), (3, .int a3)]) dX5_part_9 (by decide) rfl ?_
  refine ww_iload_n X dX5_part_11 4 rfl ?_
  rcases Classical.em (a3 = 1) with h4 | h4
  · have hp := hp.1 h4
    refine ww_tin X (1) (off := 28) (tgt := 40) dX5_part_12 h4 (by decide) (by decide) (by decide) (by decide) ?_
    refine ww_sipush X (v := 1200) dX5_part_40 (by decide) ?_
    refine ww_aload_n X dX5_part_43 1 rfl ?_
    refine ww_get X in_X5_part_X5 0 mg_0 rfl 2 (by decide) (X.wd 1 rfl) (v := .ref (ad 2)) rfl dX5_part_44 ?_
    refine ww_iconst X (v := 1) dX5_part_47 (by decide) ?_
    obtain ⟨h5, hp⟩ := hp
    refine ww_iald X 2 1 mg_2 rfl (v := (gA u1 1 1)) h5 rfl dX5_part_48 ?_
    refine ww_aload_n X dX5_part_49 1 rfl ?_
    refine ww_get X in_X5_part_X5 0 mg_0 rfl 13 (by decide) (X.wd 2 rfl) (v := .ref (ad 9)) rfl dX5_part_50 ?_
    refine ww_iload X dX5_part_53 0 rfl ?_
    obtain ⟨h6, hp⟩ := hp
    refine ww_iald X 9 1 mg_9 rfl (v := (gA u1 8 v3)) h6 rfl dX5_part_55 ?_
    refine ww_aload_n X dX5_part_56 1 rfl ?_
    refine ww_get X in_X5_part_X5 0 mg_0 rfl 2 (by decide) (X.wd 1 rfl) (v := .ref (ad 2)) rfl dX5_part_57 ?_
    refine ww_iconst X (v := 0) dX5_part_60 (by decide) ?_
    obtain ⟨h7, hp⟩ := hp
    refine ww_iald X 2 1 mg_2 rfl (v := (gA u1 1 0)) h7 rfl dX5_part_61 ?_
    refine ww_isub X dX5_part_62 ?_
    refine ww_imul X dX5_part_63 ?_
    refine ww_iadd X dX5_part_64 ?_
    exact ww_iret X hp dX5_part_65
  have hp := hp.2 h4
  rcases Classical.em (a3 = 2) with h8 | h8
  · have hp := hp.1 h8
    refine ww_tin X (2) (off := 54) (tgt := 66) dX5_part_12 h8 (by decide) (by decide) (by decide) (by decide) ?_
    refine ww_aload_n X dX5_part_66 1 rfl ?_
    refine ww_iload_n X dX5_part_67 2 rfl ?_
    refine ww_iload_n X dX5_part_68 3 rfl ?_
    refine ww_callV_i X (As := [.int a1, .int a2]) (rest := []) (kX5_style_ l D ad cB cI cZ a1 a2 u1 _ hp) (cwV 2 X.hts gX5_part_X5_style_ rfl rfl rfl hd_X5_style_ ⟨Nat.le_of_ble_eq_true rfl, Nat.le_of_ble_eq_true rfl⟩) 0 5 mg_0 rfl rfl rfl rfl (Nat.le_of_ble_eq_true rfl) dX5_part_69 (fun r10 u9 hp => ?_)
    exact ww_iret X hp dX5_part_72
  have hp := hp.2 h8
  rcases Classical.em (a3 = 3) with h11 | h11
  · have hp := hp.1 h11
    refine ww_tin X (3) (off := 61) (tgt := 73) dX5_part_12 h11 (by decide) (by decide) (by decide) (by decide) ?_
    refine ww_aload_n X dX5_part_73 1 rfl ?_
    refine ww_get X in_X5_part_X5 0 mg_0 rfl 13 (by decide) (X.wd 2 rfl) (v := .ref (ad 9)) rfl dX5_part_74 ?_
    refine ww_iload X dX5_part_77 0 rfl ?_
    refine ww_iconst X (v := 2) dX5_part_79 (by decide) ?_
    refine ww_iadd X dX5_part_80 ?_
    obtain ⟨h12, hp⟩ := hp
    refine ww_iald X 9 1 mg_9 rfl (v := (gA u1 8 (v3 + 2))) h12 rfl dX5_part_81 ?_
    refine ww_iconst X (v := 1) dX5_part_82 (by decide) ?_
    refine ww_icmp_ne X (tgt := 116) dX5_part_83 (by decide) (fun h13 => ?_) (fun h13 => ?_)
    · have hp := hp.1 h13
      exact ww_sub (lv' := [(0, .ref (ad 0)), (4, .int v3)]) [1, 0] rfl (wX5_part_b116 X  v3 u1 hp)
    · have hp := hp.2 h13
      refine ww_bipush X (v := 100) dX5_part_86 (by decide) ?_
      refine ww_aload_n X dX5_part_88 1 rfl ?_
      refine ww_get X in_X5_part_X5 0 mg_0 rfl 13 (by decide) (X.wd 2 rfl) (v := .ref (ad 9)) rfl dX5_part_89 ?_
      refine ww_iload X dX5_part_92 0 rfl ?_
      obtain ⟨h14, hp⟩ := hp
      refine ww_iald X 9 1 mg_9 rfl (v := (gA u1 8 v3)) h14 rfl dX5_part_94 ?_
      refine ww_imul X dX5_part_95 ?_
      refine ww_aload_n X dX5_part_96 1 rfl ?_
      refine ww_get X in_X5_part_X5 0 mg_0 rfl 2 (by decide) (X.wd 1 rfl) (v := .ref (ad 2)) rfl dX5_part_97 ?_
      refine ww_iconst X (v := 4) dX5_part_100 (by decide) ?_
      obtain ⟨h15, hp⟩ := hp
      refine ww_iald X 2 1 mg_2 rfl (v := (gA u1 1 4)) h15 rfl dX5_part_101 ?_
      refine ww_aload_n X dX5_part_102 1 rfl ?_
      refine ww_get X in_X5_part_X5 0 mg_0 rfl 2 (by decide) (X.wd 1 rfl) (v := .ref (ad 2)) rfl dX5_part_103 ?_
      refine ww_iconst X (v := 0) dX5_part_106 (by decide) ?_
      obtain ⟨h16, hp⟩ := hp
      refine ww_iald X 2 1 mg_2 rfl (v := (gA u1 1 0)) h16 rfl dX5_part_107 ?_
      refine ww_imul X dX5_part_108 ?_
      refine ww_icmp_ge X (tgt := 116) dX5_part_109 (by decide) (fun h17 => ?_) (fun h17 => ?_)
      · have hp := hp.1 h17
        exact ww_sub (lv' := [(0, .ref (ad 0)), (4, .int v3)]) [1, 0] rfl (wX5_part_b116 X  v3 u1 hp)
      · have hp := hp.2 h17
        refine ww_iconst X (v := 0) dX5_part_112 (by decide) ?_
        refine ww_goto X (tgt := 139) dX5_part_113 (by decide) ?_
        exact ww_sub (lv' := [(0, .ref (ad 0))]) [1] rfl (wX5_part_b139 X  0 u1 hp)
  have hp := hp.2 h11
  have e18 : a3.toInt ≠ 1 := fun q => h4 (Int32.toInt_inj.mp (q.trans (by decide)))
  have e19 : a3.toInt ≠ 2 := fun q => h8 (Int32.toInt_inj.mp (q.trans (by decide)))
  have e20 : a3.toInt ≠ 3 := fun q => h11 (Int32.toInt_inj.mp (q.trans (by decide)))
  refine ww_tout X (tgt := 140) dX5_part_12 (by omega) (by decide) ?_
  refine ww_bipush X (v := (-2)) dX5_part_140 (by decide) ?_
  refine ww_aload_n X dX5_part_142 1 rfl ?_
  refine ww_iload_n X dX5_part_143 2 rfl ?_
  refine ww_iload_n X dX5_part_144 3 rfl ?_
  refine ww_callV_i X (As := [.int a1, .int a2]) (rest := [.int (-2)]) (kX5_mean l D ad cB cI cZ a1 a2 u1 _ hp) (cwV 2 X.hts gX5_part_X5_mean rfl rfl rfl hd_X5_mean ⟨Nat.le_of_ble_eq_true rfl, Nat.le_of_ble_eq_true rfl⟩) 0 5 mg_0 rfl rfl rfl rfl (Nat.le_of_ble_eq_true rfl) dX5_part_145 (fun r22 u21 hp => ?_)
  refine ww_aload_n X dX5_part_148 1 rfl ?_
  refine ww_get X in_X5_part_X5 0 mg_0 rfl 2 (by decide) (X.wd 1 rfl) (v := .ref (ad 2)) rfl dX5_part_149 ?_
  refine ww_iconst X (v := 2) dX5_part_152 (by decide) ?_
  obtain ⟨h23, hp⟩ := hp
  refine ww_iald X 2 1 mg_2 rfl (v := (gA u21 1 2)) h23 rfl dX5_part_153 ?_
  refine ww_imul X dX5_part_154 ?_
  refine ww_bipush X (v := 100) dX5_part_155 (by decide) ?_
  refine ww_callS_i X (As := [.int (r22 * (gA u21 1 2)), .int 100]) (rest := [.int (-2)]) (kX5_nearest l D ad cB cI cZ (r22 * (gA u21 1 2)) 100 u21 _ hp) (va_cwS 2 X.hts gX5_part_X5_nearest rfl rfl rfl hn_X5_nearest ⟨Nat.le_of_ble_eq_true rfl, Nat.le_of_ble_eq_true rfl⟩) rfl rfl (Nat.le_of_ble_eq_true rfl) dX5_part_157 (fun r25 u24 hp => ?_)
  refine ww_imul X dX5_part_160 ?_
  exact ww_iret X hp dX5_part_161
set_option maxHeartbeats 4000000 in
set_option maxRecDepth 100000 in
theorem wX5_without_b52 {p : Program} {l : Launch} {e : Env} {s : State} {m : MethodId} {args : Array Value} {below : List Frame} {meth : Method} {c : Code} {D : va_G} {A : Nat → Prop} {ad : Nat → Nat} {cB cI cZ : ClassId} {post : Int32 → Sg → Prop}  (X : Cx p s m args meth c cX5_without 6 (some .int) RX5 wsX5_without D (tyL cB cI cZ) A)  (y0 : Int32) (z : Sg) (hp : pX5_without_b52  post y0 z) : WW p l e rmX5_without s m args below meth c 6 D A (mW ad cB cI cZ) (QI below args s D (tyL cB cI cZ) (mW ad cB cI cZ) A post) z 52 [(0, .ref (ad 0))] [.int y0] := by
  unfold pX5_without_b52 at hp
  exact ww_iret X hp dX5_without_52
set_option maxHeartbeats 4000000 in
set_option maxRecDepth 100000 in
theorem wX5_without_b32 {p : Program} {l : Launch} {e : Env} {s : State} {m : MethodId} {args : Array Value} {below : List Frame} {meth : Method} {c : Code} {D : va_G} {A : Nat → Prop} {ad : Nat → Nat} {cB cI cZ : ClassId} {post : Int32 → Sg → Prop} {K6 : Int32 → Int32 → Int32 → Int32 → Int32 → Sg → Prop} (X : Cx p s m args meth c cX5_without 6 (some .int) RX5 wsX5_without D (tyL cB cI cZ) A) (hK6 : ∀ (x1 x2 x3 x4 x5 : Int32) (z : Sg), K6 x1 x2 x3 x4 x5 z → WW p l e rmX5_without s m args below meth c 6 D A (mW ad cB cI cZ) (QI below args s D (tyL cB cI cZ) (mW ad cB cI cZ) A post) z 6 [(0, .ref (ad 0)), (1, .int x1), (2, .int x2), (3, .int x3), (4, .int x4), (5, .int x5)] []) (x1 x2 x3 x5 y0 y1 : Int32) (z : Sg) (hp : pX5_without_b32 K6 post x1 x2 x3 x5 y0 y1 z) : WW p l e rmX5_without s m args below meth c 6 D A (mW ad cB cI cZ) (QI below args s D (tyL cB cI cZ) (mW ad cB cI cZ) A post) z 32 [(0, .ref (ad 0)), (1, .int x1), (2, .int x2), (3, .int x3), (5, .int x5)] [.int y0, .int y1] := by
  unfold pX5_without_b32 at hp
  refine ww_iadd X dX5_without_32 ?_
  refine ww_top (fun v1 hv1 => ?_)
  have hp := hp v1 hv1
  refine ww_istore X (lv' := [(4, .int v1), (0, .ref (ad 0)), (1, .int x1), (2, .int x2), (3, .int x3), (5, .int x5)]) dX5_without_33 (by decide) rfl ?_
  refine ww_iinc X (v := (x5 + 1)) (lv' := [(5, .int (x5 + 1)), (4, .int v1), (0, .ref (ad 0)), (1, .int x1), (2, .int x2), (3, .int x3)]) dX5_without_35 5 rfl rfl (by decide) rfl ?_
  refine ww_goto X (tgt := 6) dX5_without_38 (by decide) ?_
  exact ww_sub (lv' := [(0, .ref (ad 0)), (1, .int x1), (2, .int x2), (3, .int x3), (4, .int v1), (5, .int (x5 + 1))]) [2, 3, 4, 5, 1, 0] rfl (hK6 x1 x2 x3 v1 (x5 + 1) z hp)
set_option maxHeartbeats 4000000 in
set_option maxRecDepth 100000 in
theorem wX5_without_b6 {p : Program} {l : Launch} {e : Env} {s : State} {m : MethodId} {args : Array Value} {below : List Frame} {meth : Method} {c : Code} {D : va_G} {A : Nat → Prop} {ad : Nat → Nat} {cB cI cZ : ClassId} {post : Int32 → Sg → Prop} {K6 : Int32 → Int32 → Int32 → Int32 → Int32 → Sg → Prop} (X : Cx p s m args meth c cX5_without 6 (some .int) RX5 wsX5_without D (tyL cB cI cZ) A) (hK6 : ∀ (x1 x2 x3 x4 x5 : Int32) (z : Sg), K6 x1 x2 x3 x4 x5 z → WW p l e rmX5_without s m args below meth c 6 D A (mW ad cB cI cZ) (QI below args s D (tyL cB cI cZ) (mW ad cB cI cZ) A post) z 6 [(0, .ref (ad 0)), (1, .int x1), (2, .int x2), (3, .int x3), (4, .int x4), (5, .int x5)] []) (x1 x2 x3 x4 x5 : Int32) (z : Sg) (hp : pX5_without_b6 K6 post x1 x2 x3 x4 x5 z) : WW p l e rmX5_without s m args below meth c 6 D A (mW ad cB cI cZ) (QI below args s D (tyL cB cI cZ) (mW ad cB cI cZ) A post) z 6 [(0, .ref (ad 0)), (1, .int x1), (2, .int x2), (3, .int x3), (4, .int x4), (5, .int x5)] [] := by
  unfold pX5_without_b6 at hp
  refine ww_iload X dX5_without_6 5 rfl ?_
  refine ww_iconst X (v := 5) dX5_without_8 (by decide) ?_
  refine ww_icmp_ge X (tgt := 41) dX5_without_9 (by decide) (fun h1 => ?_) (fun h1 => ?_)
  · have hp := hp.1 h1
    refine ww_iload X dX5_without_41 4 rfl ?_
    refine ww_if_ge X (tgt := 50) dX5_without_43 (by decide) (fun h2 => ?_) (fun h2 => ?_)
    · have hp := hp.1 h2
      refine ww_iload X dX5_without_50 4 rfl ?_
      exact ww_sub (lv' := [(0, .ref (ad 0))]) [0] rfl (wX5_without_b52 X  x4 z hp)
    · have hp := hp.2 h2
      refine ww_iconst X (v := 0) dX5_without_46 (by decide) ?_
      refine ww_goto X (tgt := 52) dX5_without_47 (by decide) ?_
      exact ww_sub (lv' := [(0, .ref (ad 0))]) [0] rfl (wX5_without_b52 X  0 z hp)
  · have hp := hp.2 h1
    refine ww_iload X dX5_without_12 4 rfl ?_
    refine ww_iload X dX5_without_14 5 rfl ?_
    refine ww_iload_n X dX5_without_16 3 rfl ?_
    refine ww_icmp_ne X (tgt := 24) dX5_without_17 (by decide) (fun h3 => ?_) (fun h3 => ?_)
    · have hp := hp.1 h3
      refine ww_aload_n X dX5_without_24 0 rfl ?_
      refine ww_iload_n X dX5_without_25 1 rfl ?_
      refine ww_iload_n X dX5_without_26 2 rfl ?_
      refine ww_iload X dX5_without_27 5 rfl ?_
      refine ww_callV_i X (As := [.int x1, .int x2, .int x5]) (rest := [.int x4]) (kX5_part l D ad cB cI cZ x1 x2 x5 z _ hp) (cwV 3 X.hts gX5_without_X5_part rfl rfl rfl hd_X5_part ⟨Nat.le_of_ble_eq_true rfl, Nat.le_of_ble_eq_true rfl⟩) 0 5 mg_0 rfl rfl rfl rfl (Nat.le_of_ble_eq_true rfl) dX5_without_29 (fun r5 u4 hp => ?_)
      exact ww_sub (lv' := [(0, .ref (ad 0)), (1, .int x1), (2, .int x2), (3, .int x3), (5, .int x5)]) [0, 1, 2, 3, 5] rfl (wX5_without_b32 X hK6 x1 x2 x3 x5 r5 x4 u4 hp)
    · have hp := hp.2 h3
      refine ww_iconst X (v := 0) dX5_without_20 (by decide) ?_
      refine ww_goto X (tgt := 32) dX5_without_21 (by decide) ?_
      exact ww_sub (lv' := [(0, .ref (ad 0)), (1, .int x1), (2, .int x2), (3, .int x3), (5, .int x5)]) [0, 1, 2, 3, 5] rfl (wX5_without_b32 X hK6 x1 x2 x3 x5 0 x4 z hp)
set_option maxHeartbeats 4000000 in
set_option maxRecDepth 100000 in
theorem wX5_without_l6 {p : Program} {l : Launch} {e : Env} {s : State} {m : MethodId} {args : Array Value} {below : List Frame} {meth : Method} {c : Code} {D : va_G} {A : Nat → Prop} {ad : Nat → Nat} {cB cI cZ : ClassId} {post : Int32 → Sg → Prop}  (X : Cx p s m args meth c cX5_without 6 (some .int) RX5 wsX5_without D (tyL cB cI cZ) A)  (x1 x2 x3 x4 x5 : Int32) (z : Sg) (hp : pX5_without_l6  post x1 x2 x3 x4 x5 z) : WW p l e rmX5_without s m args below meth c 6 D A (mW ad cB cI cZ) (QI below args s D (tyL cB cI cZ) (mW ad cB cI cZ) A post) z 6 [(0, .ref (ad 0)), (1, .int x1), (2, .int x2), (3, .int x3), (4, .int x4), (5, .int x5)] [] := by
  have key := lp_walk (F := (fun (K : Int32 × Int32 × Int32 × Int32 × Int32 → Sg → Prop) (a : Int32 × Int32 × Int32 × Int32 × Int32) (z : Sg) => pX5_without_b6 (fun (x1 x2 x3 x4 x5 : Int32) z => K (x1, x2, x3, x4, x5) z) post a.1 a.2.1 a.2.2.1 a.2.2.2.1 a.2.2.2.2 z)) (P := fun a z => WW p l e rmX5_without s m args below meth c 6 D A (mW ad cB cI cZ) (QI below args s D (tyL cB cI cZ) (mW ad cB cI cZ) A post) z 6 [(0, .ref (ad 0)), (1, .int a.1), (2, .int a.2.1), (3, .int a.2.2.1), (4, .int a.2.2.2.1), (5, .int a.2.2.2.2)] []) (fun K hK a z hp => wX5_without_b6 X (fun x1 x2 x3 x4 x5 z h => hK (x1, x2, x3, x4, x5) z h) a.1 a.2.1 a.2.2.1 a.2.2.2.1 a.2.2.2.2 z hp)
  exact key (x1, x2, x3, x4, x5) z hp
set_option maxHeartbeats 4000000 in
set_option maxRecDepth 100000 in
theorem kX5_without (l : Launch) (D : va_G) (ad : Nat → Nat) (cB cI cZ : ClassId) (a1 a2 a3 : Int32) (z : Sg) (post : Int32 → Sg → Prop) (hp : pX5_without a1 a2 a3 z post) : Ci l D (tyL cB cI cZ) (mW ad cB cI cZ) yX5_without wsX5_without rmX5_without [.ref (ad 0), .int a1, .int a2, .int a3] z post := by
  refine Ci.of (cc := cX5_without) (maxL := 6) (ret := (some .int)) (by decide) rfl (Nat.le_of_ble_eq_true rfl) ?_
  intro p e s m args below meth c A X
  have X : Cx p s m args meth c cX5_without 6 (some .int) RX5 wsX5_without D (tyL cB cI cZ) A := X
  show WW p l e rmX5_without s m args below meth c 6 D A (mW ad cB cI cZ) (QI below args s D (tyL cB cI cZ) (mW ad cB cI cZ) A post) z 0 [(0, .ref (ad 0)), (1, .int a1), (2, .int a2), (3, .int a3)] []
  unfold pX5_without at hp
  refine ww_iconst X (v := 0) dX5_without_0 (by decide) ?_
  refine ww_istore X (lv' := [(4, .int 0), (0, .ref (ad 0)), (1, .int a1), (2, .int a2), (3, .int a3)]) dX5_without_1 (by decide) rfl ?_
  refine ww_iconst X (v := 1) dX5_without_3 (by decide) ?_
  refine ww_istore X (lv' := [(5, .int 1), (4, .int 0), (0, .ref (ad 0)), (1, .int a1), (2, .int a2), (3, .int a3)]) dX5_without_4 (by decide) rfl ?_
  exact ww_sub (lv' := [(0, .ref (ad 0)), (1, .int a1), (2, .int a2), (3, .int a3), (4, .int 0), (5, .int 1)]) [2, 3, 4, 5, 1, 0] rfl (wX5_without_l6 X  a1 a2 a3 0 1 z hp)
set_option maxHeartbeats 4000000 in
set_option maxRecDepth 100000 in
theorem kX5_isKnowing (l : Launch) (D : va_G) (ad : Nat → Nat) (cB cI cZ : ClassId) (a1 : Int32) (z : Sg) (post : Int32 → Sg → Prop) (hp : pX5_isKnowing a1 z post) : Ci l D (tyL cB cI cZ) (mW ad cB cI cZ) yX5_isKnowing wsX5_isKnowing rmX5_isKnowing [.ref (ad 0), .int a1] z post := by
  refine Ci.of (cc := cX5_isKnowing) (maxL := 2) (ret := (some .boolean)) (by decide) rfl (Nat.le_of_ble_eq_true rfl) ?_
  intro p e s m args below meth c A X
  have X : Cx p s m args meth c cX5_isKnowing 2 (some .boolean) RX5 wsX5_isKnowing D (tyL cB cI cZ) A := X
  show WW p l e rmX5_isKnowing s m args below meth c 2 D A (mW ad cB cI cZ) (QI below args s D (tyL cB cI cZ) (mW ad cB cI cZ) A post) z 0 [(0, .ref (ad 0)), (1, .int a1)] []
  unfold pX5_isKnowing at hp
  refine ww_iload_n X dX5_isKnowing_0 1 rfl ?_
  refine ww_iconst X (v := 0) dX5_isKnowing_1 (by decide) ?_
  refine ww_aload_n X dX5_isKnowing_2 0 rfl ?_
  refine ww_get X in_X5_isKnowing_X5 0 mg_0 rfl 5 (by decide) (X.wd 1 rfl) (v := .int (z.1 2)) rfl dX5_isKnowing_3 ?_
  refine ww_callS_i X (As := [.int a1, .int 0, .int (z.1 2)]) (rest := []) (kX5_lies l D ad cB cI cZ a1 0 (z.1 2) z _ hp) (va_cwS 3 X.hts gX5_isKnowing_X5_lies rfl rfl rfl hn_X5_lies ⟨Nat.le_of_ble_eq_true rfl, Nat.le_of_ble_eq_true rfl⟩) rfl rfl (Nat.le_of_ble_eq_true rfl) dX5_isKnowing_6 (fun r2 u1 hp => ?_)
  exact ww_zret X hp.1 hp.2 dX5_isKnowing_9
set_option maxHeartbeats 4000000 in
set_option maxRecDepth 100000 in
theorem wX5_points_b129 {p : Program} {l : Launch} {e : Env} {s : State} {m : MethodId} {args : Array Value} {below : List Frame} {meth : Method} {c : Code} {D : va_G} {A : Nat → Prop} {ad : Nat → Nat} {cB cI cZ : ClassId} {post : Int32 → Sg → Prop}  (X : Cx p s m args meth c cX5_points 6 (some .int) RX5 wsX5_points D (tyL cB cI cZ) A)  (y0 : Int32) (z : Sg) (hp : pX5_points_b129  post y0 z) : WW p l e rmX5_points s m args below meth c 6 D A (mW ad cB cI cZ) (QI below args s D (tyL cB cI cZ) (mW ad cB cI cZ) A post) z 129 [(0, .ref (ad 0))] [.int y0] := by
  unfold pX5_points_b129 at hp
  exact ww_iret X hp dX5_points_129
set_option maxHeartbeats 4000000 in
set_option maxRecDepth 100000 in
theorem wX5_points_b36 {p : Program} {l : Launch} {e : Env} {s : State} {m : MethodId} {args : Array Value} {below : List Frame} {meth : Method} {c : Code} {D : va_G} {A : Nat → Prop} {ad : Nat → Nat} {cB cI cZ : ClassId} {post : Int32 → Sg → Prop}  (X : Cx p s m args meth c cX5_points 6 (some .int) RX5 wsX5_points D (tyL cB cI cZ) A)  (z : Sg) (hp : pX5_points_b36  post  z) : WW p l e rmX5_points s m args below meth c 6 D A (mW ad cB cI cZ) (QI below args s D (tyL cB cI cZ) (mW ad cB cI cZ) A post) z 36 [(0, .ref (ad 0))] [] := by
  unfold pX5_points_b36 at hp
  refine ww_sipush X (v := (-10000)) dX5_points_36 (by decide) ?_
  exact ww_iret X hp dX5_points_39
set_option maxHeartbeats 4000000 in
set_option maxRecDepth 100000 in
theorem kX5_points (l : Launch) (D : va_G) (ad : Nat → Nat) (cB cI cZ : ClassId) (a1 a2 a3 a4 : Int32) (z : Sg) (post : Int32 → Sg → Prop) (hp : pX5_points a1 a2 a3 a4 z post) : Ci l D (tyL cB cI cZ) (mW ad cB cI cZ) yX5_points wsX5_points rmX5_points [.ref (ad 0), .int a1, .int a2, .int a3, .int a4] z post := by
  refine Ci.of (cc := cX5_points) (maxL := 6) (ret := (some .int)) (by decide) rfl (Nat.le_of_ble_eq_true rfl) ?_
  intro p e s m args below meth c A X
  have X : Cx p s m args meth c cX5_points 6 (some .int) RX5 wsX5_points D (tyL cB cI cZ) A := X
  show WW p l e rmX5_points s m args below meth c 6 D A (mW ad cB cI cZ) (QI below args s D (tyL cB cI cZ) (mW ad cB cI cZ) A post) z 0 [(0, .ref (ad 0)), (1, .int a1), (2, .int a2), (3, .int a3), (4, .int a4)] []
  unfold pX5_points at hp
  refine ww_aload_n X dX5_points_0 0 rfl ?_
  refine ww_iload_n X dX5_points_1 1 rfl ?_
  refine ww_callV_i X (As := [.int a1]) (rest := []) (kX5_isKnowing l D ad cB cI cZ a1 z _ hp) (cwV 1 X.hts gX5_points_X5_isKnowing rfl rfl rfl hd_X5_isKnowing ⟨Nat.le_of_ble_eq_true rfl, Nat.le_of_ble_eq_true rfl⟩) 0 5 mg_0 rfl rfl rfl rfl (Nat.le_of_ble_eq_true rfl) dX5_points_2 (fun r2 u1 hp => ?_)
  refine ww_if_eq X (tgt := 36) dX5_points_5 (by decide) (fun h3 => ?_) (fun h3 => ?_)
  · have hp := hp.1 h3
    exact ww_sub (lv' := [(0, .ref (ad 0))]) [0] rfl (wX5_points_b36 X   u1 hp)
  · have hp := hp.2 h3
    refine ww_aload_n X dX5_points_8 0 rfl ?_
    refine ww_iload_n X dX5_points_9 2 rfl ?_
    refine ww_callV_i X (As := [.int a2]) (rest := []) (kX5_isJumper l D ad cB cI cZ a2 u1 _ hp) (cwV 1 X.hts gX5_points_X5_isJumper rfl rfl rfl hd_X5_isJumper ⟨Nat.le_of_ble_eq_true rfl, Nat.le_of_ble_eq_true rfl⟩) 0 5 mg_0 rfl rfl rfl rfl (Nat.le_of_ble_eq_true rfl) dX5_points_10 (fun r5 u4 hp => ?_)
    refine ww_if_eq X (tgt := 36) dX5_points_13 (by decide) (fun h6 => ?_) (fun h6 => ?_)
    · have hp := hp.1 h6
      exact ww_sub (lv' := [(0, .ref (ad 0))]) [0] rfl (wX5_points_b36 X   u4 hp)
    · have hp := hp.2 h6
      refine ww_iload_n X dX5_points_16 3 rfl ?_
      refine ww_iconst X (v := 0) dX5_points_17 (by decide) ?_
      refine ww_iconst X (v := 1) dX5_points_18 (by decide) ?_
      refine ww_callS_i X (As := [.int a3, .int 0, .int 1]) (rest := []) (kX5_lies l D ad cB cI cZ a3 0 1 u4 _ hp) (va_cwS 3 X.hts gX5_points_X5_lies rfl rfl rfl hn_X5_lies ⟨Nat.le_of_ble_eq_true rfl, Nat.le_of_ble_eq_true rfl⟩) rfl rfl (Nat.le_of_ble_eq_true rfl) dX5_points_19 (fun r8 u7 hp => ?_)
      refine ww_if_eq X (tgt := 36) dX5_points_22 (by decide) (fun h9 => ?_) (fun h9 => ?_)
      · have hp := hp.1 h9
        exact ww_sub (lv' := [(0, .ref (ad 0))]) [0] rfl (wX5_points_b36 X   u7 hp)
      · have hp := hp.2 h9
        refine ww_iload X dX5_points_25 4 rfl ?_
        refine ww_iconst X (v := 0) dX5_points_27 (by decide) ?_
        refine ww_bipush X (v := 7) dX5_points_28 (by decide) ?_
        refine ww_callS_i X (As := [.int a4, .int 0, .int 7]) (rest := []) (kX5_lies l D ad cB cI cZ a4 0 7 u7 _ hp) (va_cwS 3 X.hts gX5_points_X5_lies rfl rfl rfl hn_X5_lies ⟨Nat.le_of_ble_eq_true rfl, Nat.le_of_ble_eq_true rfl⟩) rfl rfl (Nat.le_of_ble_eq_true rfl) dX5_points_30 (fun r11 u10 hp => ?_)
        refine ww_if_ne X (tgt := 40) dX5_points_33 (by decide) (fun h12 => ?_) (fun h12 => ?_)
        · have hp := hp.1 h12
          refine ww_iload_n X dX5_points_40 2 rfl ?_
          refine ww_bipush X (v := 32) dX5_points_41 (by decide) ?_
          refine ww_iload_n X dX5_points_43 3 rfl ?_
          refine ww_imul X dX5_points_44 ?_
          refine ww_iadd X dX5_points_45 ?_
          refine ww_top (fun v13 hv13 => ?_)
          have hp := hp v13 hv13
          refine ww_istore X (lv' := [(5, .int v13), (0, .ref (ad 0)), (1, .int a1), (2, .int a2), (3, .int a3), (4, .int a4)]) dX5_points_46 (by decide) rfl ?_
          refine ww_iload X dX5_points_48 5 rfl ?_
          refine ww_bipush X (v := 7) dX5_points_50 (by decide) ?_
          refine ww_icmp_ne X (tgt := 63) dX5_points_52 (by decide) (fun h14 => ?_) (fun h14 => ?_)
          · have hp := hp.1 h14
            refine ww_aload_n X dX5_points_63 1 rfl ?_
            refine ww_iload_n X dX5_points_64 2 rfl ?_
            refine ww_iload X dX5_points_65 0 rfl ?_
            refine ww_callV_i X (As := [.int a1, .int v13]) (rest := []) (kX5_has l D ad cB cI cZ a1 v13 u10 _ hp) (cwV 2 X.hts gX5_points_X5_has rfl rfl rfl hd_X5_has ⟨Nat.le_of_ble_eq_true rfl, Nat.le_of_ble_eq_true rfl⟩) 0 5 mg_0 rfl rfl rfl rfl (Nat.le_of_ble_eq_true rfl) dX5_points_67 (fun r16 u15 hp => ?_)
            refine ww_if_ne X (tgt := 77) dX5_points_70 (by decide) (fun h17 => ?_) (fun h17 => ?_)
            · have hp := hp.1 h17
              refine ww_iload X dX5_points_77 5 rfl ?_
              refine ww_if_ne X (tgt := 91) dX5_points_79 (by decide) (fun h18 => ?_) (fun h18 => ?_)
              · have hp := hp.1 h18
                refine ww_iload X dX5_points_91 5 rfl ?_
                refine ww_iconst X (v := 5) dX5_points_93 (by decide) ?_
                refine ww_icmp_ge X (tgt := 109) dX5_points_94 (by decide) (fun h19 => ?_) (fun h19 => ?_)
                · have hp := hp.1 h19
                  refine ww_aload_n X dX5_points_109 1 rfl ?_
                  refine ww_iload_n X dX5_points_110 2 rfl ?_
                  refine ww_iload X dX5_points_111 0 rfl ?_
                  refine ww_iconst X (v := 0) dX5_points_113 (by decide) ?_
                  refine ww_callV_i X (As := [.int a1, .int v13, .int 0]) (rest := []) (kX5_without l D ad cB cI cZ a1 v13 0 u15 _ hp) (cwV 3 X.hts gX5_points_X5_without rfl rfl rfl hd_X5_without ⟨Nat.le_of_ble_eq_true rfl, Nat.le_of_ble_eq_true rfl⟩) 0 5 mg_0 rfl rfl rfl rfl (Nat.le_of_ble_eq_true rfl) dX5_points_114 (fun r21 u20 hp => ?_)
                  refine ww_aload_n X dX5_points_117 1 rfl ?_
                  refine ww_iload_n X dX5_points_118 2 rfl ?_
                  refine ww_iload X dX5_points_119 0 rfl ?_
                  refine ww_iload X dX5_points_121 5 rfl ?_
                  refine ww_iconst X (v := 2) dX5_points_123 (by decide) ?_
                  refine ww_isub X dX5_points_124 ?_
                  refine ww_callV_i X (As := [.int a1, .int v13, .int (a4 - 2)]) (rest := [.int r21]) (kX5_without l D ad cB cI cZ a1 v13 (a4 - 2) u20 _ hp) (cwV 3 X.hts gX5_points_X5_without rfl rfl rfl hd_X5_without ⟨Nat.le_of_ble_eq_true rfl, Nat.le_of_ble_eq_true rfl⟩) 0 5 mg_0 rfl rfl rfl rfl (Nat.le_of_ble_eq_true rfl) dX5_points_125 (fun r23 u22 hp => ?_)
                  refine ww_isub X dX5_points_128 ?_
                  exact ww_sub (lv' := [(0, .ref (ad 0))]) [1] rfl (wX5_points_b129 X  (r21 - r23) u22 hp)
                · have hp := hp.2 h19
                  refine ww_aload_n X dX5_points_97 1 rfl ?_
                  refine ww_iload_n X dX5_points_98 2 rfl ?_
                  refine ww_iload X dX5_points_99 0 rfl ?_
                  refine ww_iload X dX5_points_101 5 rfl ?_
                  refine ww_callV_i X (As := [.int a1, .int v13, .int a4]) (rest := []) (kX5_part l D ad cB cI cZ a1 v13 a4 u15 _ hp) (cwV 3 X.hts gX5_points_X5_part rfl rfl rfl hd_X5_part ⟨Nat.le_of_ble_eq_true rfl, Nat.le_of_ble_eq_true rfl⟩) 0 5 mg_0 rfl rfl rfl rfl (Nat.le_of_ble_eq_true rfl) dX5_points_103 (fun r25 u24 hp => ?_)
                  refine ww_goto X (tgt := 129) dX5_points_106 (by decide) ?_
                  exact ww_sub (lv' := [(0, .ref (ad 0))]) [1] rfl (wX5_points_b129 X  r25 u24 hp)
              · have hp := hp.2 h18
                refine ww_aload_n X dX5_points_82 1 rfl ?_
                refine ww_iload_n X dX5_points_83 2 rfl ?_
                refine ww_iload X dX5_points_84 0 rfl ?_
                refine ww_iconst X (v := 0) dX5_points_86 (by decide) ?_
                refine ww_callV_i X (As := [.int a1, .int v13, .int 0]) (rest := []) (kX5_without l D ad cB cI cZ a1 v13 0 u15 _ hp) (cwV 3 X.hts gX5_points_X5_without rfl rfl rfl hd_X5_without ⟨Nat.le_of_ble_eq_true rfl, Nat.le_of_ble_eq_true rfl⟩) 0 5 mg_0 rfl rfl rfl rfl (Nat.le_of_ble_eq_true rfl) dX5_points_87 (fun r27 u26 hp => ?_)
                exact ww_iret X hp dX5_points_90
            · have hp := hp.2 h17
              refine ww_sipush X (v := (-10000)) dX5_points_73 (by decide) ?_
              exact ww_iret X hp dX5_points_76
          · have hp := hp.2 h14
            refine ww_aload_n X dX5_points_55 1 rfl ?_
            refine ww_iload_n X dX5_points_56 2 rfl ?_
            refine ww_iload X dX5_points_57 0 rfl ?_
            refine ww_callV_i X (As := [.int a1, .int v13]) (rest := []) (kX5_mean l D ad cB cI cZ a1 v13 u10 _ hp) (cwV 2 X.hts gX5_points_X5_mean rfl rfl rfl hd_X5_mean ⟨Nat.le_of_ble_eq_true rfl, Nat.le_of_ble_eq_true rfl⟩) 0 5 mg_0 rfl rfl rfl rfl (Nat.le_of_ble_eq_true rfl) dX5_points_59 (fun r29 u28 hp => ?_)
            exact ww_iret X hp dX5_points_62
        · have hp := hp.2 h12
          exact ww_sub (lv' := [(0, .ref (ad 0))]) [0] rfl (wX5_points_b36 X   u10 hp)
set_option maxHeartbeats 4000000 in
set_option maxRecDepth 100000 in
theorem wX5_works_b275 {p : Program} {l : Launch} {e : Env} {s : State} {m : MethodId} {args : Array Value} {below : List Frame} {meth : Method} {c : Code} {D : va_G} {A : Nat → Prop} {ad : Nat → Nat} {cB cI cZ : ClassId} {post : Sg → Prop} {K58 : Int32 → Int32 → Sg → Prop} (X : Cx p s m args meth c cX5_works 6 none RX5 wsX5_works D (tyL cB cI cZ) A) (hK58 : ∀ (x1 x2 : Int32) (z : Sg), K58 x1 x2 z → WW p l e rmX5_works s m args below meth c 6 D A (mW ad cB cI cZ) (QV below args s D (tyL cB cI cZ) (mW ad cB cI cZ) A post) z 58 [(0, .ref (ad 0)), (1, .int x1), (2, .int x2)] []) (x1 x2 y0 y1 y2 : Int32) (z : Sg) (hp : pX5_works_b275 K58 post x1 x2 y0 y1 y2 z) : WW p l e rmX5_works s m args below meth c 6 D A (mW ad cB cI cZ) (QV below args s D (tyL cB cI cZ) (mW ad cB cI cZ) A post) z 275 [(0, .ref (ad 0)), (1, .int x1), (2, .int x2)] [.int y0, .int y1, .int y2, .ref (ad 13)] := by
  unfold pX5_works_b275 at hp
  refine ww_iadd X dX5_works_275 ?_
  obtain ⟨h1, hp⟩ := hp
  refine ww_iast X 13 1 mg_13 rfl (sg' := (sA z 12 y2 (y1 + y0))) h1 ma_13 dX5_works_276 ?_
  refine ww_iinc X (v := (x2 + 1)) (lv' := [(2, .int (x2 + 1)), (0, .ref (ad 0)), (1, .int x1)]) dX5_works_277 2 rfl rfl (by decide) rfl ?_
  refine ww_goto X (tgt := 58) dX5_works_280 (by decide) ?_
  exact ww_sub (lv' := [(0, .ref (ad 0)), (1, .int x1), (2, .int (x2 + 1))]) [1, 2, 0] rfl (hK58 x1 (x2 + 1) (sA z 12 y2 (y1 + y0)) hp)
set_option maxHeartbeats 4000000 in
set_option maxRecDepth 100000 in
theorem wX5_works_b274 {p : Program} {l : Launch} {e : Env} {s : State} {m : MethodId} {args : Array Value} {below : List Frame} {meth : Method} {c : Code} {D : va_G} {A : Nat → Prop} {ad : Nat → Nat} {cB cI cZ : ClassId} {post : Sg → Prop} {K58 : Int32 → Int32 → Sg → Prop} (X : Cx p s m args meth c cX5_works 6 none RX5 wsX5_works D (tyL cB cI cZ) A) (hK58 : ∀ (x1 x2 : Int32) (z : Sg), K58 x1 x2 z → WW p l e rmX5_works s m args below meth c 6 D A (mW ad cB cI cZ) (QV below args s D (tyL cB cI cZ) (mW ad cB cI cZ) A post) z 58 [(0, .ref (ad 0)), (1, .int x1), (2, .int x2)] []) (x1 x2 y0 y1 : Int32) (z : Sg) (hp : pX5_works_b274 K58 post x1 x2 y0 y1 z) : WW p l e rmX5_works s m args below meth c 6 D A (mW ad cB cI cZ) (QV below args s D (tyL cB cI cZ) (mW ad cB cI cZ) A post) z 274 [(0, .ref (ad 0)), (1, .int x1), (2, .int x2)] [.int y0, .int y1, .ref (ad 13)] := by
  unfold pX5_works_b274 at hp
  refine ww_iconst X (v := 0) dX5_works_274 (by decide) ?_
  exact wX5_works_b275 X hK58 x1 x2 0 y0 y1 z hp
set_option maxHeartbeats 4000000 in
set_option maxRecDepth 100000 in
theorem wX5_works_b228 {p : Program} {l : Launch} {e : Env} {s : State} {m : MethodId} {args : Array Value} {below : List Frame} {meth : Method} {c : Code} {D : va_G} {A : Nat → Prop} {ad : Nat → Nat} {cB cI cZ : ClassId} {post : Sg → Prop} {K58 : Int32 → Int32 → Sg → Prop} (X : Cx p s m args meth c cX5_works 6 none RX5 wsX5_works D (tyL cB cI cZ) A) (hK58 : ∀ (x1 x2 : Int32) (z : Sg), K58 x1 x2 z → WW p l e rmX5_works s m args below meth c 6 D A (mW ad cB cI cZ) (QV below args s D (tyL cB cI cZ) (mW ad cB cI cZ) A post) z 58 [(0, .ref (ad 0)), (1, .int x1), (2, .int x2)] []) (x1 x2 y0 y1 : Int32) (z : Sg) (hp : pX5_works_b228 K58 post x1 x2 y0 y1 z) : WW p l e rmX5_works s m args below meth c 6 D A (mW ad cB cI cZ) (QV below args s D (tyL cB cI cZ) (mW ad cB cI cZ) A post) z 228 [(0, .ref (ad 0)), (1, .int x1), (2, .int x2)] [.int y0, .int y1, .ref (ad 11)] := by
  unfold pX5_works_b228 at hp
  obtain ⟨h1, hp⟩ := hp
  refine ww_zast X 11 2 mg_11 rfl (sg' := (sA z 10 y1 (vp_nar .boolean y0))) h1 ma_11 dX5_works_228 ?_
  refine ww_aload_n X dX5_works_229 0 rfl ?_
  refine ww_get X in_X5_works_X5 0 mg_0 rfl 19 (by decide) (X.wd 6 rfl) (v := .ref (ad 13)) rfl dX5_works_230 ?_
  refine ww_iload_n X dX5_works_233 2 rfl ?_
  refine ww_aload_n X dX5_works_234 0 rfl ?_
  refine ww_get X in_X5_works_X5 0 mg_0 rfl 18 (by decide) (X.wd 3 rfl) (v := .ref (ad 12)) rfl dX5_works_235 ?_
  refine ww_iload_n X dX5_works_238 2 rfl ?_
  obtain ⟨h2, hp⟩ := hp
  refine ww_iald X 12 1 mg_12 rfl (v := (gA z 11 x2)) h2 rfl dX5_works_239 ?_
  refine ww_aload_n X dX5_works_240 0 rfl ?_
  refine ww_get X in_X5_works_X5 0 mg_0 rfl 17 (by decide) (X.wd 4 rfl) (v := .ref (ad 11)) rfl dX5_works_241 ?_
  refine ww_iload_n X dX5_works_244 2 rfl ?_
  obtain ⟨h3, hp⟩ := hp
  refine ww_zald X 11 2 mg_11 rfl (v := (gA (sA z 10 y1 (vp_nar .boolean y0)) 10 x2)) h3 rfl dX5_works_245 ?_
  refine ww_if_eq X (tgt := 274) dX5_works_246 (by decide) (fun h4 => ?_) (fun h4 => ?_)
  · have hp := hp.1 h4
    exact wX5_works_b274 X hK58 x1 x2 (gA z 11 x2) x2 (sA z 10 y1 (vp_nar .boolean y0)) hp
  · have hp := hp.2 h4
    refine ww_aload_n X dX5_works_249 0 rfl ?_
    refine ww_iload_n X dX5_works_250 1 rfl ?_
    refine ww_iload_n X dX5_works_251 2 rfl ?_
    refine ww_bipush X (v := 32) dX5_works_252 (by decide) ?_
    refine ww_iadd X dX5_works_254 ?_
    refine ww_callV_i X (As := [.int x1, .int (x2 + 32)]) (rest := [.int (gA z 11 x2), .int x2, .ref (ad 13)]) (kX5_has l D ad cB cI cZ x1 (x2 + 32) (sA z 10 y1 (vp_nar .boolean y0)) _ hp) (cwV 2 X.hts gX5_works_X5_has rfl rfl rfl hd_X5_has ⟨Nat.le_of_ble_eq_true rfl, Nat.le_of_ble_eq_true rfl⟩) 0 5 mg_0 rfl rfl rfl rfl (Nat.le_of_ble_eq_true rfl) dX5_works_255 (fun r6 u5 hp => ?_)
    refine ww_if_eq X (tgt := 274) dX5_works_258 (by decide) (fun h7 => ?_) (fun h7 => ?_)
    · have hp := hp.1 h7
      exact wX5_works_b274 X hK58 x1 x2 (gA z 11 x2) x2 u5 hp
    · have hp := hp.2 h7
      refine ww_aload_n X dX5_works_261 0 rfl ?_
      refine ww_iload_n X dX5_works_262 1 rfl ?_
      refine ww_iload_n X dX5_works_263 2 rfl ?_
      refine ww_bipush X (v := 32) dX5_works_264 (by decide) ?_
      refine ww_iadd X dX5_works_266 ?_
      refine ww_iconst X (v := 0) dX5_works_267 (by decide) ?_
      refine ww_callV_i X (As := [.int x1, .int (x2 + 32), .int 0]) (rest := [.int (gA z 11 x2), .int x2, .ref (ad 13)]) (kX5_without l D ad cB cI cZ x1 (x2 + 32) 0 u5 _ hp) (cwV 3 X.hts gX5_works_X5_without rfl rfl rfl hd_X5_without ⟨Nat.le_of_ble_eq_true rfl, Nat.le_of_ble_eq_true rfl⟩) 0 5 mg_0 rfl rfl rfl rfl (Nat.le_of_ble_eq_true rfl) dX5_works_268 (fun r9 u8 hp => ?_)
      refine ww_goto X (tgt := 275) dX5_works_271 (by decide) ?_
      exact wX5_works_b275 X hK58 x1 x2 r9 (gA z 11 x2) x2 u8 hp
set_option maxHeartbeats 4000000 in
set_option maxRecDepth 100000 in
theorem wX5_works_b227 {p : Program} {l : Launch} {e : Env} {s : State} {m : MethodId} {args : Array Value} {below : List Frame} {meth : Method} {c : Code} {D : va_G} {A : Nat → Prop} {ad : Nat → Nat} {cB cI cZ : ClassId} {post : Sg → Prop} {K58 : Int32 → Int32 → Sg → Prop} (X : Cx p s m args meth c cX5_works 6 none RX5 wsX5_works D (tyL cB cI cZ) A) (hK58 : ∀ (x1 x2 : Int32) (z : Sg), K58 x1 x2 z → WW p l e rmX5_works s m args below meth c 6 D A (mW ad cB cI cZ) (QV below args s D (tyL cB cI cZ) (mW ad cB cI cZ) A post) z 58 [(0, .ref (ad 0)), (1, .int x1), (2, .int x2)] []) (x1 x2 y0 : Int32) (z : Sg) (hp : pX5_works_b227 K58 post x1 x2 y0 z) : WW p l e rmX5_works s m args below meth c 6 D A (mW ad cB cI cZ) (QV below args s D (tyL cB cI cZ) (mW ad cB cI cZ) A post) z 227 [(0, .ref (ad 0)), (1, .int x1), (2, .int x2)] [.int y0, .ref (ad 11)] := by
  unfold pX5_works_b227 at hp
  refine ww_iconst X (v := 0) dX5_works_227 (by decide) ?_
  exact wX5_works_b228 X hK58 x1 x2 0 y0 z hp
set_option maxHeartbeats 4000000 in
set_option maxRecDepth 100000 in
theorem wX5_works_b223 {p : Program} {l : Launch} {e : Env} {s : State} {m : MethodId} {args : Array Value} {below : List Frame} {meth : Method} {c : Code} {D : va_G} {A : Nat → Prop} {ad : Nat → Nat} {cB cI cZ : ClassId} {post : Sg → Prop} {K58 : Int32 → Int32 → Sg → Prop} (X : Cx p s m args meth c cX5_works 6 none RX5 wsX5_works D (tyL cB cI cZ) A) (hK58 : ∀ (x1 x2 : Int32) (z : Sg), K58 x1 x2 z → WW p l e rmX5_works s m args below meth c 6 D A (mW ad cB cI cZ) (QV below args s D (tyL cB cI cZ) (mW ad cB cI cZ) A post) z 58 [(0, .ref (ad 0)), (1, .int x1), (2, .int x2)] []) (x1 x2 y0 : Int32) (z : Sg) (hp : pX5_works_b223 K58 post x1 x2 y0 z) : WW p l e rmX5_works s m args below meth c 6 D A (mW ad cB cI cZ) (QV below args s D (tyL cB cI cZ) (mW ad cB cI cZ) A post) z 223 [(0, .ref (ad 0)), (1, .int x1), (2, .int x2)] [.int y0, .ref (ad 11)] := by
  unfold pX5_works_b223 at hp
  refine ww_iconst X (v := 1) dX5_works_223 (by decide) ?_
  refine ww_goto X (tgt := 228) dX5_works_224 (by decide) ?_
  exact wX5_works_b228 X hK58 x1 x2 1 y0 z hp
set_option maxHeartbeats 4000000 in
set_option maxRecDepth 100000 in
theorem wX5_works_b168 {p : Program} {l : Launch} {e : Env} {s : State} {m : MethodId} {args : Array Value} {below : List Frame} {meth : Method} {c : Code} {D : va_G} {A : Nat → Prop} {ad : Nat → Nat} {cB cI cZ : ClassId} {post : Sg → Prop} {K58 : Int32 → Int32 → Sg → Prop} {K74 : Int32 → Int32 → Int32 → Int32 → Int32 → Sg → Prop} (X : Cx p s m args meth c cX5_works 6 none RX5 wsX5_works D (tyL cB cI cZ) A) (hK58 : ∀ (x1 x2 : Int32) (z : Sg), K58 x1 x2 z → WW p l e rmX5_works s m args below meth c 6 D A (mW ad cB cI cZ) (QV below args s D (tyL cB cI cZ) (mW ad cB cI cZ) A post) z 58 [(0, .ref (ad 0)), (1, .int x1), (2, .int x2)] []) (hK74 : ∀ (x1 x2 x3 x4 x5 : Int32) (z : Sg), K74 x1 x2 x3 x4 x5 z → WW p l e rmX5_works s m args below meth c 6 D A (mW ad cB cI cZ) (QV below args s D (tyL cB cI cZ) (mW ad cB cI cZ) A post) z 74 [(0, .ref (ad 0)), (1, .int x1), (2, .int x2), (3, .int x3), (4, .int x4), (5, .int x5)] []) (x1 x2 x3 x4 x5 : Int32) (z : Sg) (hp : pX5_works_b168 K58 K74 post x1 x2 x3 x4 x5 z) : WW p l e rmX5_works s m args below meth c 6 D A (mW ad cB cI cZ) (QV below args s D (tyL cB cI cZ) (mW ad cB cI cZ) A post) z 168 [(0, .ref (ad 0)), (1, .int x1), (2, .int x2), (3, .int x3), (4, .int x4), (5, .int x5)] [] := by
  unfold pX5_works_b168 at hp
  refine ww_iinc X (v := (x5 + 1)) (lv' := [(5, .int (x5 + 1)), (0, .ref (ad 0)), (1, .int x1), (2, .int x2), (3, .int x3), (4, .int x4)]) dX5_works_168 5 rfl rfl (by decide) rfl ?_
  refine ww_goto X (tgt := 74) dX5_works_171 (by decide) ?_
  exact ww_sub (lv' := [(0, .ref (ad 0)), (1, .int x1), (2, .int x2), (3, .int x3), (4, .int x4), (5, .int (x5 + 1))]) [1, 2, 3, 4, 5, 0] rfl (hK74 x1 x2 x3 x4 (x5 + 1) z hp)
set_option maxHeartbeats 4000000 in
set_option maxRecDepth 100000 in
theorem wX5_works_b166 {p : Program} {l : Launch} {e : Env} {s : State} {m : MethodId} {args : Array Value} {below : List Frame} {meth : Method} {c : Code} {D : va_G} {A : Nat → Prop} {ad : Nat → Nat} {cB cI cZ : ClassId} {post : Sg → Prop} {K58 : Int32 → Int32 → Sg → Prop} {K74 : Int32 → Int32 → Int32 → Int32 → Int32 → Sg → Prop} (X : Cx p s m args meth c cX5_works 6 none RX5 wsX5_works D (tyL cB cI cZ) A) (hK58 : ∀ (x1 x2 : Int32) (z : Sg), K58 x1 x2 z → WW p l e rmX5_works s m args below meth c 6 D A (mW ad cB cI cZ) (QV below args s D (tyL cB cI cZ) (mW ad cB cI cZ) A post) z 58 [(0, .ref (ad 0)), (1, .int x1), (2, .int x2)] []) (hK74 : ∀ (x1 x2 x3 x4 x5 : Int32) (z : Sg), K74 x1 x2 x3 x4 x5 z → WW p l e rmX5_works s m args below meth c 6 D A (mW ad cB cI cZ) (QV below args s D (tyL cB cI cZ) (mW ad cB cI cZ) A post) z 74 [(0, .ref (ad 0)), (1, .int x1), (2, .int x2), (3, .int x3), (4, .int x4), (5, .int x5)] []) (x1 x2 x4 x5 y0 y1 : Int32) (z : Sg) (hp : pX5_works_b166 K58 K74 post x1 x2 x4 x5 y0 y1 z) : WW p l e rmX5_works s m args below meth c 6 D A (mW ad cB cI cZ) (QV below args s D (tyL cB cI cZ) (mW ad cB cI cZ) A post) z 166 [(0, .ref (ad 0)), (1, .int x1), (2, .int x2), (4, .int x4), (5, .int x5)] [.int y0, .int y1] := by
  unfold pX5_works_b166 at hp
  refine ww_iadd X dX5_works_166 ?_
  refine ww_top (fun v1 hv1 => ?_)
  have hp := hp v1 hv1
  refine ww_istore_n X (lv' := [(3, .int v1), (0, .ref (ad 0)), (1, .int x1), (2, .int x2), (4, .int x4), (5, .int x5)]) dX5_works_167 (by decide) rfl ?_
  exact ww_sub (lv' := [(0, .ref (ad 0)), (1, .int x1), (2, .int x2), (3, .int v1), (4, .int x4), (5, .int x5)]) [1, 2, 3, 0, 4, 5] rfl (wX5_works_b168 X hK58 hK74 x1 x2 v1 x4 x5 z hp)
set_option maxHeartbeats 4000000 in
set_option maxRecDepth 100000 in
theorem wX5_works_b165 {p : Program} {l : Launch} {e : Env} {s : State} {m : MethodId} {args : Array Value} {below : List Frame} {meth : Method} {c : Code} {D : va_G} {A : Nat → Prop} {ad : Nat → Nat} {cB cI cZ : ClassId} {post : Sg → Prop} {K58 : Int32 → Int32 → Sg → Prop} {K74 : Int32 → Int32 → Int32 → Int32 → Int32 → Sg → Prop} (X : Cx p s m args meth c cX5_works 6 none RX5 wsX5_works D (tyL cB cI cZ) A) (hK58 : ∀ (x1 x2 : Int32) (z : Sg), K58 x1 x2 z → WW p l e rmX5_works s m args below meth c 6 D A (mW ad cB cI cZ) (QV below args s D (tyL cB cI cZ) (mW ad cB cI cZ) A post) z 58 [(0, .ref (ad 0)), (1, .int x1), (2, .int x2)] []) (hK74 : ∀ (x1 x2 x3 x4 x5 : Int32) (z : Sg), K74 x1 x2 x3 x4 x5 z → WW p l e rmX5_works s m args below meth c 6 D A (mW ad cB cI cZ) (QV below args s D (tyL cB cI cZ) (mW ad cB cI cZ) A post) z 74 [(0, .ref (ad 0)), (1, .int x1), (2, .int x2), (3, .int x3), (4, .int x4), (5, .int x5)] []) (x1 x2 x4 x5 y0 : Int32) (z : Sg) (hp : pX5_works_b165 K58 K74 post x1 x2 x4 x5 y0 z) : WW p l e rmX5_works s m args below meth c 6 D A (mW ad cB cI cZ) (QV below args s D (tyL cB cI cZ) (mW ad cB cI cZ) A post) z 165 [(0, .ref (ad 0)), (1, .int x1), (2, .int x2), (4, .int x4), (5, .int x5)] [.int y0] := by
  unfold pX5_works_b165 at hp
  refine ww_iconst X (v := 0) dX5_works_165 (by decide) ?_
  exact wX5_works_b166 X hK58 hK74 x1 x2 x4 x5 0 y0 z hp
set_option maxHeartbeats 4000000 in
set_option maxRecDepth 100000 in
theorem wX5_works_b161 {p : Program} {l : Launch} {e : Env} {s : State} {m : MethodId} {args : Array Value} {below : List Frame} {meth : Method} {c : Code} {D : va_G} {A : Nat → Prop} {ad : Nat → Nat} {cB cI cZ : ClassId} {post : Sg → Prop} {K58 : Int32 → Int32 → Sg → Prop} {K74 : Int32 → Int32 → Int32 → Int32 → Int32 → Sg → Prop} (X : Cx p s m args meth c cX5_works 6 none RX5 wsX5_works D (tyL cB cI cZ) A) (hK58 : ∀ (x1 x2 : Int32) (z : Sg), K58 x1 x2 z → WW p l e rmX5_works s m args below meth c 6 D A (mW ad cB cI cZ) (QV below args s D (tyL cB cI cZ) (mW ad cB cI cZ) A post) z 58 [(0, .ref (ad 0)), (1, .int x1), (2, .int x2)] []) (hK74 : ∀ (x1 x2 x3 x4 x5 : Int32) (z : Sg), K74 x1 x2 x3 x4 x5 z → WW p l e rmX5_works s m args below meth c 6 D A (mW ad cB cI cZ) (QV below args s D (tyL cB cI cZ) (mW ad cB cI cZ) A post) z 74 [(0, .ref (ad 0)), (1, .int x1), (2, .int x2), (3, .int x3), (4, .int x4), (5, .int x5)] []) (x1 x2 x4 x5 y0 : Int32) (z : Sg) (hp : pX5_works_b161 K58 K74 post x1 x2 x4 x5 y0 z) : WW p l e rmX5_works s m args below meth c 6 D A (mW ad cB cI cZ) (QV below args s D (tyL cB cI cZ) (mW ad cB cI cZ) A post) z 161 [(0, .ref (ad 0)), (1, .int x1), (2, .int x2), (4, .int x4), (5, .int x5)] [.int y0] := by
  unfold pX5_works_b161 at hp
  refine ww_iconst X (v := 1) dX5_works_161 (by decide) ?_
  refine ww_goto X (tgt := 166) dX5_works_162 (by decide) ?_
  exact wX5_works_b166 X hK58 hK74 x1 x2 x4 x5 1 y0 z hp
set_option maxHeartbeats 4000000 in
set_option maxRecDepth 100000 in
theorem wX5_works_b119 {p : Program} {l : Launch} {e : Env} {s : State} {m : MethodId} {args : Array Value} {below : List Frame} {meth : Method} {c : Code} {D : va_G} {A : Nat → Prop} {ad : Nat → Nat} {cB cI cZ : ClassId} {post : Sg → Prop} {K58 : Int32 → Int32 → Sg → Prop} {K74 : Int32 → Int32 → Int32 → Int32 → Int32 → Sg → Prop} (X : Cx p s m args meth c cX5_works 6 none RX5 wsX5_works D (tyL cB cI cZ) A) (hK58 : ∀ (x1 x2 : Int32) (z : Sg), K58 x1 x2 z → WW p l e rmX5_works s m args below meth c 6 D A (mW ad cB cI cZ) (QV below args s D (tyL cB cI cZ) (mW ad cB cI cZ) A post) z 58 [(0, .ref (ad 0)), (1, .int x1), (2, .int x2)] []) (hK74 : ∀ (x1 x2 x3 x4 x5 : Int32) (z : Sg), K74 x1 x2 x3 x4 x5 z → WW p l e rmX5_works s m args below meth c 6 D A (mW ad cB cI cZ) (QV below args s D (tyL cB cI cZ) (mW ad cB cI cZ) A post) z 74 [(0, .ref (ad 0)), (1, .int x1), (2, .int x2), (3, .int x3), (4, .int x4), (5, .int x5)] []) (x1 x2 x3 x5 y0 y1 : Int32) (z : Sg) (hp : pX5_works_b119 K58 K74 post x1 x2 x3 x5 y0 y1 z) : WW p l e rmX5_works s m args below meth c 6 D A (mW ad cB cI cZ) (QV below args s D (tyL cB cI cZ) (mW ad cB cI cZ) A post) z 119 [(0, .ref (ad 0)), (1, .int x1), (2, .int x2), (3, .int x3), (5, .int x5)] [.int y0, .int y1] := by
  unfold pX5_works_b119 at hp
  refine ww_iadd X dX5_works_119 ?_
  refine ww_top (fun v1 hv1 => ?_)
  have hp := hp v1 hv1
  refine ww_istore X (lv' := [(4, .int v1), (0, .ref (ad 0)), (1, .int x1), (2, .int x2), (3, .int x3), (5, .int x5)]) dX5_works_120 (by decide) rfl ?_
  refine ww_iload_n X dX5_works_122 4 rfl ?_
  refine ww_aload_n X dX5_works_123 1 rfl ?_
  refine ww_get X in_X5_works_X5 0 mg_0 rfl 18 (by decide) (X.wd 3 rfl) (v := .ref (ad 12)) rfl dX5_works_124 ?_
  refine ww_iload X dX5_works_127 5 rfl ?_
  obtain ⟨h2, hp⟩ := hp
  refine ww_iald X 12 1 mg_12 rfl (v := (gA z 11 x5)) h2 rfl dX5_works_129 ?_
  refine ww_aload_n X dX5_works_130 1 rfl ?_
  refine ww_get X in_X5_works_X5 0 mg_0 rfl 18 (by decide) (X.wd 3 rfl) (v := .ref (ad 12)) rfl dX5_works_131 ?_
  refine ww_iload_n X dX5_works_134 3 rfl ?_
  obtain ⟨h3, hp⟩ := hp
  refine ww_iald X 12 1 mg_12 rfl (v := (gA z 11 x2)) h3 rfl dX5_works_135 ?_
  refine ww_icmp_gt X (tgt := 161) dX5_works_136 (by decide) (fun h4 => ?_) (fun h4 => ?_)
  · have hp := hp.1 h4
    exact ww_sub (lv' := [(0, .ref (ad 0)), (1, .int x1), (2, .int x2), (4, .int v1), (5, .int x5)]) [1, 2, 3, 0, 5] rfl (wX5_works_b161 X hK58 hK74 x1 x2 v1 x5 x3 z hp)
  · have hp := hp.2 h4
    refine ww_aload_n X dX5_works_139 1 rfl ?_
    refine ww_get X in_X5_works_X5 0 mg_0 rfl 18 (by decide) (X.wd 3 rfl) (v := .ref (ad 12)) rfl dX5_works_140 ?_
    refine ww_iload X dX5_works_143 5 rfl ?_
    obtain ⟨h5, hp⟩ := hp
    refine ww_iald X 12 1 mg_12 rfl (v := (gA z 11 x5)) h5 rfl dX5_works_145 ?_
    refine ww_aload_n X dX5_works_146 1 rfl ?_
    refine ww_get X in_X5_works_X5 0 mg_0 rfl 18 (by decide) (X.wd 3 rfl) (v := .ref (ad 12)) rfl dX5_works_147 ?_
    refine ww_iload_n X dX5_works_150 3 rfl ?_
    obtain ⟨h6, hp⟩ := hp
    refine ww_iald X 12 1 mg_12 rfl (v := (gA z 11 x2)) h6 rfl dX5_works_151 ?_
    refine ww_icmp_ne X (tgt := 165) dX5_works_152 (by decide) (fun h7 => ?_) (fun h7 => ?_)
    · have hp := hp.1 h7
      exact ww_sub (lv' := [(0, .ref (ad 0)), (1, .int x1), (2, .int x2), (4, .int v1), (5, .int x5)]) [1, 2, 3, 0, 5] rfl (wX5_works_b165 X hK58 hK74 x1 x2 v1 x5 x3 z hp)
    · have hp := hp.2 h7
      refine ww_iload X dX5_works_155 5 rfl ?_
      refine ww_iload_n X dX5_works_157 3 rfl ?_
      refine ww_icmp_ge X (tgt := 165) dX5_works_158 (by decide) (fun h8 => ?_) (fun h8 => ?_)
      · have hp := hp.1 h8
        exact ww_sub (lv' := [(0, .ref (ad 0)), (1, .int x1), (2, .int x2), (4, .int v1), (5, .int x5)]) [1, 2, 3, 0, 5] rfl (wX5_works_b165 X hK58 hK74 x1 x2 v1 x5 x3 z hp)
      · have hp := hp.2 h8
        exact ww_sub (lv' := [(0, .ref (ad 0)), (1, .int x1), (2, .int x2), (4, .int v1), (5, .int x5)]) [1, 2, 3, 0, 5] rfl (wX5_works_b161 X hK58 hK74 x1 x2 v1 x5 x3 z hp)
set_option maxHeartbeats 4000000 in
set_option maxRecDepth 100000 in
theorem wX5_works_b74 {p : Program} {l : Launch} {e : Env} {s : State} {m : MethodId} {args : Array Value} {below : List Frame} {meth : Method} {c : Code} {D : va_G} {A : Nat → Prop} {ad : Nat → Nat} {cB cI cZ : ClassId} {post : Sg → Prop} {K58 : Int32 → Int32 → Sg → Prop} {K74 : Int32 → Int32 → Int32 → Int32 → Int32 → Sg → Prop} (X : Cx p s m args meth c cX5_works 6 none RX5 wsX5_works D (tyL cB cI cZ) A) (hK58 : ∀ (x1 x2 : Int32) (z : Sg), K58 x1 x2 z → WW p l e rmX5_works s m args below meth c 6 D A (mW ad cB cI cZ) (QV below args s D (tyL cB cI cZ) (mW ad cB cI cZ) A post) z 58 [(0, .ref (ad 0)), (1, .int x1), (2, .int x2)] []) (hK74 : ∀ (x1 x2 x3 x4 x5 : Int32) (z : Sg), K74 x1 x2 x3 x4 x5 z → WW p l e rmX5_works s m args below meth c 6 D A (mW ad cB cI cZ) (QV below args s D (tyL cB cI cZ) (mW ad cB cI cZ) A post) z 74 [(0, .ref (ad 0)), (1, .int x1), (2, .int x2), (3, .int x3), (4, .int x4), (5, .int x5)] []) (x1 x2 x3 x4 x5 : Int32) (z : Sg) (hp : pX5_works_b74 K58 K74 post x1 x2 x3 x4 x5 z) : WW p l e rmX5_works s m args below meth c 6 D A (mW ad cB cI cZ) (QV below args s D (tyL cB cI cZ) (mW ad cB cI cZ) A post) z 74 [(0, .ref (ad 0)), (1, .int x1), (2, .int x2), (3, .int x3), (4, .int x4), (5, .int x5)] [] := by
  unfold pX5_works_b74 at hp
  refine ww_iload X dX5_works_74 5 rfl ?_
  refine ww_aload_n X dX5_works_76 0 rfl ?_
  refine ww_get X in_X5_works_X5 0 mg_0 rfl 4 (by decide) (X.wd 1 rfl) (v := .int (z.1 1)) rfl dX5_works_77 ?_
  refine ww_icmp_ge X (tgt := 174) dX5_works_80 (by decide) (fun h1 => ?_) (fun h1 => ?_)
  · have hp := hp.1 h1
    refine ww_aload_n X dX5_works_174 0 rfl ?_
    refine ww_get X in_X5_works_X5 0 mg_0 rfl 17 (by decide) (X.wd 4 rfl) (v := .ref (ad 11)) rfl dX5_works_175 ?_
    refine ww_iload_n X dX5_works_178 2 rfl ?_
    refine ww_aload_n X dX5_works_179 0 rfl ?_
    refine ww_get X in_X5_works_X5 0 mg_0 rfl 16 (by decide) (X.wd 2 rfl) (v := .ref (ad 10)) rfl dX5_works_180 ?_
    refine ww_iload_n X dX5_works_183 2 rfl ?_
    obtain ⟨h2, hp⟩ := hp
    refine ww_zald X 10 2 mg_10 rfl (v := (gA z 9 x2)) h2 rfl dX5_works_184 ?_
    refine ww_if_eq X (tgt := 227) dX5_works_185 (by decide) (fun h3 => ?_) (fun h3 => ?_)
    · have hp := hp.1 h3
      exact ww_sub (lv' := [(0, .ref (ad 0)), (1, .int x1), (2, .int x2)]) [0, 1, 2] rfl (wX5_works_b227 X hK58 x1 x2 x2 z hp)
    · have hp := hp.2 h3
      refine ww_aload_n X dX5_works_188 0 rfl ?_
      refine ww_get X in_X5_works_X5 0 mg_0 rfl 2 (by decide) (X.wd 5 rfl) (v := .ref (ad 2)) rfl dX5_works_189 ?_
      refine ww_bipush X (v := 6) dX5_works_192 (by decide) ?_
      obtain ⟨h4, hp⟩ := hp
      refine ww_iald X 2 1 mg_2 rfl (v := (gA z 1 6)) h4 rfl dX5_works_194 ?_
      refine ww_iconst X (v := 1) dX5_works_195 (by decide) ?_
      refine ww_icmp_ne X (tgt := 213) dX5_works_196 (by decide) (fun h5 => ?_) (fun h5 => ?_)
      · have hp := hp.1 h5
        refine ww_iload_n X dX5_works_213 3 rfl ?_
        refine ww_aload_n X dX5_works_214 0 rfl ?_
        refine ww_get X in_X5_works_X5 0 mg_0 rfl 2 (by decide) (X.wd 5 rfl) (v := .ref (ad 2)) rfl dX5_works_215 ?_
        refine ww_iconst X (v := 5) dX5_works_218 (by decide) ?_
        obtain ⟨h6, hp⟩ := hp
        refine ww_iald X 2 1 mg_2 rfl (v := (gA z 1 5)) h6 rfl dX5_works_219 ?_
        refine ww_icmp_ge X (tgt := 227) dX5_works_220 (by decide) (fun h7 => ?_) (fun h7 => ?_)
        · have hp := hp.1 h7
          exact ww_sub (lv' := [(0, .ref (ad 0)), (1, .int x1), (2, .int x2)]) [0, 1, 2] rfl (wX5_works_b227 X hK58 x1 x2 x2 z hp)
        · have hp := hp.2 h7
          exact ww_sub (lv' := [(0, .ref (ad 0)), (1, .int x1), (2, .int x2)]) [0, 1, 2] rfl (wX5_works_b223 X hK58 x1 x2 x2 z hp)
      · have hp := hp.2 h5
        refine ww_iload X dX5_works_199 4 rfl ?_
        refine ww_aload_n X dX5_works_201 0 rfl ?_
        refine ww_get X in_X5_works_X5 0 mg_0 rfl 2 (by decide) (X.wd 5 rfl) (v := .ref (ad 2)) rfl dX5_works_202 ?_
        refine ww_iconst X (v := 5) dX5_works_205 (by decide) ?_
        obtain ⟨h8, hp⟩ := hp
        refine ww_iald X 2 1 mg_2 rfl (v := (gA z 1 5)) h8 rfl dX5_works_206 ?_
        refine ww_icmp_ge X (tgt := 227) dX5_works_207 (by decide) (fun h9 => ?_) (fun h9 => ?_)
        · have hp := hp.1 h9
          exact ww_sub (lv' := [(0, .ref (ad 0)), (1, .int x1), (2, .int x2)]) [0, 1, 2] rfl (wX5_works_b227 X hK58 x1 x2 x2 z hp)
        · have hp := hp.2 h9
          refine ww_goto X (tgt := 223) dX5_works_210 (by decide) ?_
          exact ww_sub (lv' := [(0, .ref (ad 0)), (1, .int x1), (2, .int x2)]) [0, 1, 2] rfl (wX5_works_b223 X hK58 x1 x2 x2 z hp)
  · have hp := hp.2 h1
    refine ww_aload_n X dX5_works_83 0 rfl ?_
    refine ww_get X in_X5_works_X5 0 mg_0 rfl 16 (by decide) (X.wd 2 rfl) (v := .ref (ad 10)) rfl dX5_works_84 ?_
    refine ww_iload X dX5_works_87 5 rfl ?_
    obtain ⟨h10, hp⟩ := hp
    refine ww_zald X 10 2 mg_10 rfl (v := (gA z 9 x5)) h10 rfl dX5_works_89 ?_
    refine ww_if_ne X (tgt := 96) dX5_works_90 (by decide) (fun h11 => ?_) (fun h11 => ?_)
    · have hp := hp.1 h11
      refine ww_iload X dX5_works_96 4 rfl ?_
      refine ww_aload_n X dX5_works_98 0 rfl ?_
      refine ww_get X in_X5_works_X5 0 mg_0 rfl 18 (by decide) (X.wd 3 rfl) (v := .ref (ad 12)) rfl dX5_works_99 ?_
      refine ww_iload X dX5_works_102 5 rfl ?_
      obtain ⟨h12, hp⟩ := hp
      refine ww_iald X 12 1 mg_12 rfl (v := (gA z 11 x5)) h12 rfl dX5_works_104 ?_
      refine ww_aload_n X dX5_works_105 0 rfl ?_
      refine ww_get X in_X5_works_X5 0 mg_0 rfl 18 (by decide) (X.wd 3 rfl) (v := .ref (ad 12)) rfl dX5_works_106 ?_
      refine ww_iload_n X dX5_works_109 2 rfl ?_
      obtain ⟨h13, hp⟩ := hp
      refine ww_iald X 12 1 mg_12 rfl (v := (gA z 11 x2)) h13 rfl dX5_works_110 ?_
      refine ww_icmp_le X (tgt := 118) dX5_works_111 (by decide) (fun h14 => ?_) (fun h14 => ?_)
      · have hp := hp.1 h14
        refine ww_iconst X (v := 0) dX5_works_118 (by decide) ?_
        exact ww_sub (lv' := [(0, .ref (ad 0)), (1, .int x1), (2, .int x2), (3, .int x3), (5, .int x5)]) [0, 1, 2, 3, 5] rfl (wX5_works_b119 X hK58 hK74 x1 x2 x3 x5 0 x4 z hp)
      · have hp := hp.2 h14
        refine ww_iconst X (v := 1) dX5_works_114 (by decide) ?_
        refine ww_goto X (tgt := 119) dX5_works_115 (by decide) ?_
        exact ww_sub (lv' := [(0, .ref (ad 0)), (1, .int x1), (2, .int x2), (3, .int x3), (5, .int x5)]) [0, 1, 2, 3, 5] rfl (wX5_works_b119 X hK58 hK74 x1 x2 x3 x5 1 x4 z hp)
    · have hp := hp.2 h11
      refine ww_goto X (tgt := 168) dX5_works_93 (by decide) ?_
      exact wX5_works_b168 X hK58 hK74 x1 x2 x3 x4 x5 z hp
set_option maxHeartbeats 4000000 in
set_option maxRecDepth 100000 in
theorem wX5_works_l74 {p : Program} {l : Launch} {e : Env} {s : State} {m : MethodId} {args : Array Value} {below : List Frame} {meth : Method} {c : Code} {D : va_G} {A : Nat → Prop} {ad : Nat → Nat} {cB cI cZ : ClassId} {post : Sg → Prop} {K58 : Int32 → Int32 → Sg → Prop} (X : Cx p s m args meth c cX5_works 6 none RX5 wsX5_works D (tyL cB cI cZ) A) (hK58 : ∀ (x1 x2 : Int32) (z : Sg), K58 x1 x2 z → WW p l e rmX5_works s m args below meth c 6 D A (mW ad cB cI cZ) (QV below args s D (tyL cB cI cZ) (mW ad cB cI cZ) A post) z 58 [(0, .ref (ad 0)), (1, .int x1), (2, .int x2)] []) (x1 x2 x3 x4 x5 : Int32) (z : Sg) (hp : pX5_works_l74 K58 post x1 x2 x3 x4 x5 z) : WW p l e rmX5_works s m args below meth c 6 D A (mW ad cB cI cZ) (QV below args s D (tyL cB cI cZ) (mW ad cB cI cZ) A post) z 74 [(0, .ref (ad 0)), (1, .int x1), (2, .int x2), (3, .int x3), (4, .int x4), (5, .int x5)] [] := by
  have key := lp_walk (F := (fun (K : Int32 × Int32 × Int32 × Int32 × Int32 → Sg → Prop) (a : Int32 × Int32 × Int32 × Int32 × Int32) (z : Sg) => pX5_works_b74 K58 (fun (x1 x2 x3 x4 x5 : Int32) z => K (x1, x2, x3, x4, x5) z) post a.1 a.2.1 a.2.2.1 a.2.2.2.1 a.2.2.2.2 z)) (P := fun a z => WW p l e rmX5_works s m args below meth c 6 D A (mW ad cB cI cZ) (QV below args s D (tyL cB cI cZ) (mW ad cB cI cZ) A post) z 74 [(0, .ref (ad 0)), (1, .int a.1), (2, .int a.2.1), (3, .int a.2.2.1), (4, .int a.2.2.2.1), (5, .int a.2.2.2.2)] []) (fun K hK a z hp => wX5_works_b74 X hK58 (fun x1 x2 x3 x4 x5 z h => hK (x1, x2, x3, x4, x5) z h) a.1 a.2.1 a.2.2.1 a.2.2.2.1 a.2.2.2.2 z hp)
  exact key (x1, x2, x3, x4, x5) z hp
set_option maxHeartbeats 4000000 in
set_option maxRecDepth 100000 in
theorem wX5_works_b58 {p : Program} {l : Launch} {e : Env} {s : State} {m : MethodId} {args : Array Value} {below : List Frame} {meth : Method} {c : Code} {D : va_G} {A : Nat → Prop} {ad : Nat → Nat} {cB cI cZ : ClassId} {post : Sg → Prop} {K58 : Int32 → Int32 → Sg → Prop} (X : Cx p s m args meth c cX5_works 6 none RX5 wsX5_works D (tyL cB cI cZ) A) (hK58 : ∀ (x1 x2 : Int32) (z : Sg), K58 x1 x2 z → WW p l e rmX5_works s m args below meth c 6 D A (mW ad cB cI cZ) (QV below args s D (tyL cB cI cZ) (mW ad cB cI cZ) A post) z 58 [(0, .ref (ad 0)), (1, .int x1), (2, .int x2)] []) (x1 x2 : Int32) (z : Sg) (hp : pX5_works_b58 K58 post x1 x2 z) : WW p l e rmX5_works s m args below meth c 6 D A (mW ad cB cI cZ) (QV below args s D (tyL cB cI cZ) (mW ad cB cI cZ) A post) z 58 [(0, .ref (ad 0)), (1, .int x1), (2, .int x2)] [] := by
  unfold pX5_works_b58 at hp
  refine ww_iload_n X dX5_works_58 2 rfl ?_
  refine ww_aload_n X dX5_works_59 0 rfl ?_
  refine ww_get X in_X5_works_X5 0 mg_0 rfl 4 (by decide) (X.wd 1 rfl) (v := .int (z.1 1)) rfl dX5_works_60 ?_
  refine ww_icmp_ge X (tgt := 283) dX5_works_63 (by decide) (fun h1 => ?_) (fun h1 => ?_)
  · have hp := hp.1 h1
    exact ww_vret X hp dX5_works_283
  · have hp := hp.2 h1
    refine ww_iconst X (v := 0) dX5_works_66 (by decide) ?_
    refine ww_istore_n X (lv' := [(3, .int 0), (0, .ref (ad 0)), (1, .int x1), (2, .int x2)]) dX5_works_67 (by decide) rfl ?_
    refine ww_iconst X (v := 0) dX5_works_68 (by decide) ?_
    refine ww_istore X (lv' := [(4, .int 0), (3, .int 0), (0, .ref (ad 0)), (1, .int x1), (2, .int x2)]) dX5_works_69 (by decide) rfl ?_
    refine ww_iconst X (v := 0) dX5_works_71 (by decide) ?_
    refine ww_istore X (lv' := [(5, .int 0), (4, .int 0), (3, .int 0), (0, .ref (ad 0)), (1, .int x1), (2, .int x2)]) dX5_works_72 (by decide) rfl ?_
    exact ww_sub (lv' := [(0, .ref (ad 0)), (1, .int x1), (2, .int x2), (3, .int 0), (4, .int 0), (5, .int 0)]) [3, 4, 5, 2, 1, 0] rfl (wX5_works_l74 X hK58 x1 x2 0 0 0 z hp)
set_option maxHeartbeats 4000000 in
set_option maxRecDepth 100000 in
theorem wX5_works_l58 {p : Program} {l : Launch} {e : Env} {s : State} {m : MethodId} {args : Array Value} {below : List Frame} {meth : Method} {c : Code} {D : va_G} {A : Nat → Prop} {ad : Nat → Nat} {cB cI cZ : ClassId} {post : Sg → Prop}  (X : Cx p s m args meth c cX5_works 6 none RX5 wsX5_works D (tyL cB cI cZ) A)  (x1 x2 : Int32) (z : Sg) (hp : pX5_works_l58  post x1 x2 z) : WW p l e rmX5_works s m args below meth c 6 D A (mW ad cB cI cZ) (QV below args s D (tyL cB cI cZ) (mW ad cB cI cZ) A post) z 58 [(0, .ref (ad 0)), (1, .int x1), (2, .int x2)] [] := by
  have key := lp_walk (F := (fun (K : Int32 × Int32 → Sg → Prop) (a : Int32 × Int32) (z : Sg) => pX5_works_b58 (fun (x1 x2 : Int32) z => K (x1, x2) z) post a.1 a.2 z)) (P := fun a z => WW p l e rmX5_works s m args below meth c 6 D A (mW ad cB cI cZ) (QV below args s D (tyL cB cI cZ) (mW ad cB cI cZ) A post) z 58 [(0, .ref (ad 0)), (1, .int a.1), (2, .int a.2)] []) (fun K hK a z hp => wX5_works_b58 X (fun x1 x2 z h => hK (x1, x2) z h) a.1 a.2 z hp)
  exact key (x1, x2) z hp
set_option maxHeartbeats 4000000 in
set_option maxRecDepth 100000 in
theorem wX5_works_b49 {p : Program} {l : Launch} {e : Env} {s : State} {m : MethodId} {args : Array Value} {below : List Frame} {meth : Method} {c : Code} {D : va_G} {A : Nat → Prop} {ad : Nat → Nat} {cB cI cZ : ClassId} {post : Sg → Prop} {K2 : Int32 → Int32 → Sg → Prop} (X : Cx p s m args meth c cX5_works 6 none RX5 wsX5_works D (tyL cB cI cZ) A) (hK2 : ∀ (x1 x2 : Int32) (z : Sg), K2 x1 x2 z → WW p l e rmX5_works s m args below meth c 6 D A (mW ad cB cI cZ) (QV below args s D (tyL cB cI cZ) (mW ad cB cI cZ) A post) z 2 [(0, .ref (ad 0)), (1, .int x1), (2, .int x2)] []) (x1 x2 y0 y1 : Int32) (z : Sg) (hp : pX5_works_b49 K2 post x1 x2 y0 y1 z) : WW p l e rmX5_works s m args below meth c 6 D A (mW ad cB cI cZ) (QV below args s D (tyL cB cI cZ) (mW ad cB cI cZ) A post) z 49 [(0, .ref (ad 0)), (1, .int x1), (2, .int x2)] [.int y0, .int y1, .ref (ad 12)] := by
  unfold pX5_works_b49 at hp
  obtain ⟨h1, hp⟩ := hp
  refine ww_iast X 12 1 mg_12 rfl (sg' := (sA z 11 y1 y0)) h1 ma_12 dX5_works_49 ?_
  refine ww_iinc X (v := (x2 + 1)) (lv' := [(2, .int (x2 + 1)), (0, .ref (ad 0)), (1, .int x1)]) dX5_works_50 2 rfl rfl (by decide) rfl ?_
  refine ww_goto X (tgt := 2) dX5_works_53 (by decide) ?_
  exact ww_sub (lv' := [(0, .ref (ad 0)), (1, .int x1), (2, .int (x2 + 1))]) [1, 2, 0] rfl (hK2 x1 (x2 + 1) (sA z 11 y1 y0) hp)
set_option maxHeartbeats 4000000 in
set_option maxRecDepth 100000 in
theorem wX5_works_b2 {p : Program} {l : Launch} {e : Env} {s : State} {m : MethodId} {args : Array Value} {below : List Frame} {meth : Method} {c : Code} {D : va_G} {A : Nat → Prop} {ad : Nat → Nat} {cB cI cZ : ClassId} {post : Sg → Prop} {K2 : Int32 → Int32 → Sg → Prop} (X : Cx p s m args meth c cX5_works 6 none RX5 wsX5_works D (tyL cB cI cZ) A) (hK2 : ∀ (x1 x2 : Int32) (z : Sg), K2 x1 x2 z → WW p l e rmX5_works s m args below meth c 6 D A (mW ad cB cI cZ) (QV below args s D (tyL cB cI cZ) (mW ad cB cI cZ) A post) z 2 [(0, .ref (ad 0)), (1, .int x1), (2, .int x2)] []) (x1 x2 : Int32) (z : Sg) (hp : pX5_works_b2 K2 post x1 x2 z) : WW p l e rmX5_works s m args below meth c 6 D A (mW ad cB cI cZ) (QV below args s D (tyL cB cI cZ) (mW ad cB cI cZ) A post) z 2 [(0, .ref (ad 0)), (1, .int x1), (2, .int x2)] [] := by
  unfold pX5_works_b2 at hp
  refine ww_iload_n X dX5_works_2 2 rfl ?_
  refine ww_aload_n X dX5_works_3 0 rfl ?_
  refine ww_get X in_X5_works_X5 0 mg_0 rfl 4 (by decide) (X.wd 1 rfl) (v := .int (z.1 1)) rfl dX5_works_4 ?_
  refine ww_icmp_ge X (tgt := 56) dX5_works_7 (by decide) (fun h1 => ?_) (fun h1 => ?_)
  · have hp := hp.1 h1
    refine ww_iconst X (v := 0) dX5_works_56 (by decide) ?_
    refine ww_istore_n X (lv' := [(2, .int 0), (0, .ref (ad 0)), (1, .int x1)]) dX5_works_57 (by decide) rfl ?_
    exact ww_sub (lv' := [(0, .ref (ad 0)), (1, .int x1), (2, .int 0)]) [1, 2, 0] rfl (wX5_works_l58 X  x1 0 z hp)
  · have hp := hp.2 h1
    refine ww_aload_n X dX5_works_10 0 rfl ?_
    refine ww_get X in_X5_works_X5 0 mg_0 rfl 16 (by decide) (X.wd 2 rfl) (v := .ref (ad 10)) rfl dX5_works_11 ?_
    refine ww_iload_n X dX5_works_14 2 rfl ?_
    refine ww_aload_n X dX5_works_15 0 rfl ?_
    refine ww_iload_n X dX5_works_16 1 rfl ?_
    refine ww_iload_n X dX5_works_17 2 rfl ?_
    refine ww_callV_i X (As := [.int x1, .int x2]) (rest := [.int x2, .ref (ad 10)]) (kX5_has l D ad cB cI cZ x1 x2 z _ hp) (cwV 2 X.hts gX5_works_X5_has rfl rfl rfl hd_X5_has ⟨Nat.le_of_ble_eq_true rfl, Nat.le_of_ble_eq_true rfl⟩) 0 5 mg_0 rfl rfl rfl rfl (Nat.le_of_ble_eq_true rfl) dX5_works_18 (fun r3 u2 hp => ?_)
    obtain ⟨h4, hp⟩ := hp
    refine ww_zast X 10 2 mg_10 rfl (sg' := (sA u2 9 x2 (vp_nar .boolean r3))) h4 ma_10 dX5_works_21 ?_
    refine ww_aload_n X dX5_works_22 0 rfl ?_
    refine ww_get X in_X5_works_X5 0 mg_0 rfl 18 (by decide) (X.wd 3 rfl) (v := .ref (ad 12)) rfl dX5_works_23 ?_
    refine ww_iload_n X dX5_works_26 2 rfl ?_
    refine ww_aload_n X dX5_works_27 0 rfl ?_
    refine ww_get X in_X5_works_X5 0 mg_0 rfl 16 (by decide) (X.wd 2 rfl) (v := .ref (ad 10)) rfl dX5_works_28 ?_
    refine ww_iload_n X dX5_works_31 2 rfl ?_
    obtain ⟨h5, hp⟩ := hp
    refine ww_zald X 10 2 mg_10 rfl (v := (gA (sA u2 9 x2 (vp_nar .boolean r3)) 9 x2)) h5 rfl dX5_works_32 ?_
    refine ww_if_eq X (tgt := 46) dX5_works_33 (by decide) (fun h6 => ?_) (fun h6 => ?_)
    · have hp := hp.1 h6
      refine ww_sipush X (v := (-10000)) dX5_works_46 (by decide) ?_
      exact wX5_works_b49 X hK2 x1 x2 (-10000) x2 (sA u2 9 x2 (vp_nar .boolean r3)) hp
    · have hp := hp.2 h6
      refine ww_aload_n X dX5_works_36 0 rfl ?_
      refine ww_iload_n X dX5_works_37 1 rfl ?_
      refine ww_iload_n X dX5_works_38 2 rfl ?_
      refine ww_iconst X (v := 0) dX5_works_39 (by decide) ?_
      refine ww_callV_i X (As := [.int x1, .int x2, .int 0]) (rest := [.int x2, .ref (ad 12)]) (kX5_without l D ad cB cI cZ x1 x2 0 (sA u2 9 x2 (vp_nar .boolean r3)) _ hp) (cwV 3 X.hts gX5_works_X5_without rfl rfl rfl hd_X5_without ⟨Nat.le_of_ble_eq_true rfl, Nat.le_of_ble_eq_true rfl⟩) 0 5 mg_0 rfl rfl rfl rfl (Nat.le_of_ble_eq_true rfl) dX5_works_40 (fun r8 u7 hp => ?_)
      refine ww_goto X (tgt := 49) dX5_works_43 (by decide) ?_
      exact wX5_works_b49 X hK2 x1 x2 r8 x2 u7 hp
set_option maxHeartbeats 4000000 in
set_option maxRecDepth 100000 in
theorem wX5_works_l2 {p : Program} {l : Launch} {e : Env} {s : State} {m : MethodId} {args : Array Value} {below : List Frame} {meth : Method} {c : Code} {D : va_G} {A : Nat → Prop} {ad : Nat → Nat} {cB cI cZ : ClassId} {post : Sg → Prop}  (X : Cx p s m args meth c cX5_works 6 none RX5 wsX5_works D (tyL cB cI cZ) A)  (x1 x2 : Int32) (z : Sg) (hp : pX5_works_l2  post x1 x2 z) : WW p l e rmX5_works s m args below meth c 6 D A (mW ad cB cI cZ) (QV below args s D (tyL cB cI cZ) (mW ad cB cI cZ) A post) z 2 [(0, .ref (ad 0)), (1, .int x1), (2, .int x2)] [] := by
  have key := lp_walk (F := (fun (K : Int32 × Int32 → Sg → Prop) (a : Int32 × Int32) (z : Sg) => pX5_works_b2 (fun (x1 x2 : Int32) z => K (x1, x2) z) post a.1 a.2 z)) (P := fun a z => WW p l e rmX5_works s m args below meth c 6 D A (mW ad cB cI cZ) (QV below args s D (tyL cB cI cZ) (mW ad cB cI cZ) A post) z 2 [(0, .ref (ad 0)), (1, .int a.1), (2, .int a.2)] []) (fun K hK a z hp => wX5_works_b2 X (fun x1 x2 z h => hK (x1, x2) z h) a.1 a.2 z hp)
  exact key (x1, x2) z hp
set_option maxHeartbeats 4000000 in
set_option maxRecDepth 100000 in
theorem kX5_works (l : Launch) (D : va_G) (ad : Nat → Nat) (cB cI cZ : ClassId) (a1 : Int32) (z : Sg) (post : Sg → Prop) (hp : pX5_works a1 z post) : Cv l D (tyL cB cI cZ) (mW ad cB cI cZ) yX5_works wsX5_works rmX5_works [.ref (ad 0), .int a1] z post := by
  refine Cv.of (cc := cX5_works) (maxL := 6) (ret := none) (by decide) rfl (Nat.le_of_ble_eq_true rfl) ?_
  intro p e s m args below meth c A X
  have X : Cx p s m args meth c cX5_works 6 none RX5 wsX5_works D (tyL cB cI cZ) A := X
  show WW p l e rmX5_works s m args below meth c 6 D A (mW ad cB cI cZ) (QV below args s D (tyL cB cI cZ) (mW ad cB cI cZ) A post) z 0 [(0, .ref (ad 0)), (1, .int a1)] []
  unfold pX5_works at hp
  refine ww_iconst X (v := 0) dX5_works_0 (by decide) ?_
  refine ww_istore_n X (lv' := [(2, .int 0), (0, .ref (ad 0)), (1, .int a1)]) dX5_works_1 (by decide) rfl ?_
  exact ww_sub (lv' := [(0, .ref (ad 0)), (1, .int a1), (2, .int 0)]) [1, 2, 0] rfl (wX5_works_l2 X  a1 0 z hp)
set_option maxHeartbeats 4000000 in
set_option maxRecDepth 100000 in
theorem wX5_isBefore_b56 {p : Program} {l : Launch} {e : Env} {s : State} {m : MethodId} {args : Array Value} {below : List Frame} {meth : Method} {c : Code} {D : va_G} {A : Nat → Prop} {ad : Nat → Nat} {cB cI cZ : ClassId} {post : Int32 → Sg → Prop}  (X : Cx p s m args meth c cX5_isBefore 3 (some .boolean) RX5 wsX5_isBefore D (tyL cB cI cZ) A)  (y0 : Int32) (z : Sg) (hp : pX5_isBefore_b56  post y0 z) : WW p l e rmX5_isBefore s m args below meth c 3 D A (mW ad cB cI cZ) (QI below args s D (tyL cB cI cZ) (mW ad cB cI cZ) A post) z 56 [(0, .ref (ad 0))] [.int y0] := by
  unfold pX5_isBefore_b56 at hp
  exact ww_zret X hp.1 hp.2 dX5_isBefore_56
set_option maxHeartbeats 4000000 in
set_option maxRecDepth 100000 in
theorem wX5_isBefore_b55 {p : Program} {l : Launch} {e : Env} {s : State} {m : MethodId} {args : Array Value} {below : List Frame} {meth : Method} {c : Code} {D : va_G} {A : Nat → Prop} {ad : Nat → Nat} {cB cI cZ : ClassId} {post : Int32 → Sg → Prop}  (X : Cx p s m args meth c cX5_isBefore 3 (some .boolean) RX5 wsX5_isBefore D (tyL cB cI cZ) A)  (z : Sg) (hp : pX5_isBefore_b55  post  z) : WW p l e rmX5_isBefore s m args below meth c 3 D A (mW ad cB cI cZ) (QI below args s D (tyL cB cI cZ) (mW ad cB cI cZ) A post) z 55 [(0, .ref (ad 0))] [] := by
  unfold pX5_isBefore_b55 at hp
  refine ww_iconst X (v := 0) dX5_isBefore_55 (by decide) ?_
  exact wX5_isBefore_b56 X  0 z hp
set_option maxHeartbeats 4000000 in
set_option maxRecDepth 100000 in
theorem wX5_isBefore_b51 {p : Program} {l : Launch} {e : Env} {s : State} {m : MethodId} {args : Array Value} {below : List Frame} {meth : Method} {c : Code} {D : va_G} {A : Nat → Prop} {ad : Nat → Nat} {cB cI cZ : ClassId} {post : Int32 → Sg → Prop}  (X : Cx p s m args meth c cX5_isBefore 3 (some .boolean) RX5 wsX5_isBefore D (tyL cB cI cZ) A)  (z : Sg) (hp : pX5_isBefore_b51  post  z) : WW p l e rmX5_isBefore s m args below meth c 3 D A (mW ad cB cI cZ) (QI below args s D (tyL cB cI cZ) (mW ad cB cI cZ) A post) z 51 [(0, .ref (ad 0))] [] := by
  unfold pX5_isBefore_b51 at hp
  refine ww_iconst X (v := 1) dX5_isBefore_51 (by decide) ?_
  refine ww_goto X (tgt := 56) dX5_isBefore_52 (by decide) ?_
  exact wX5_isBefore_b56 X  1 z hp
set_option maxHeartbeats 4000000 in
set_option maxRecDepth 100000 in
theorem kX5_isBefore (l : Launch) (D : va_G) (ad : Nat → Nat) (cB cI cZ : ClassId) (a1 a2 : Int32) (z : Sg) (post : Int32 → Sg → Prop) (hp : pX5_isBefore a1 a2 z post) : Ci l D (tyL cB cI cZ) (mW ad cB cI cZ) yX5_isBefore wsX5_isBefore rmX5_isBefore [.ref (ad 0), .int a1, .int a2] z post := by
  refine Ci.of (cc := cX5_isBefore) (maxL := 3) (ret := (some .boolean)) (by decide) rfl (Nat.le_of_ble_eq_true rfl) ?_
  intro p e s m args below meth c A X
  have X : Cx p s m args meth c cX5_isBefore 3 (some .boolean) RX5 wsX5_isBefore D (tyL cB cI cZ) A := X
  show WW p l e rmX5_isBefore s m args below meth c 3 D A (mW ad cB cI cZ) (QI below args s D (tyL cB cI cZ) (mW ad cB cI cZ) A post) z 0 [(0, .ref (ad 0)), (1, .int a1), (2, .int a2)] []
  unfold pX5_isBefore at hp
  refine ww_aload_n X dX5_isBefore_0 0 rfl ?_
  refine ww_get X in_X5_isBefore_X5 0 mg_0 rfl 16 (by decide) (X.wd 1 rfl) (v := .ref (ad 10)) rfl dX5_isBefore_1 ?_
  refine ww_iload_n X dX5_isBefore_4 1 rfl ?_
  obtain ⟨h1, hp⟩ := hp
  refine ww_zald X 10 2 mg_10 rfl (v := (gA z 9 a1)) h1 rfl dX5_isBefore_5 ?_
  refine ww_if_eq X (tgt := 55) dX5_isBefore_6 (by decide) (fun h2 => ?_) (fun h2 => ?_)
  · have hp := hp.1 h2
    exact ww_sub (lv' := [(0, .ref (ad 0))]) [0] rfl (wX5_isBefore_b55 X   z hp)
  · have hp := hp.2 h2
    refine ww_aload_n X dX5_isBefore_9 0 rfl ?_
    refine ww_get X in_X5_isBefore_X5 0 mg_0 rfl 17 (by decide) (X.wd 2 rfl) (v := .ref (ad 11)) rfl dX5_isBefore_10 ?_
    refine ww_iload_n X dX5_isBefore_13 1 rfl ?_
    obtain ⟨h3, hp⟩ := hp
    refine ww_zald X 11 2 mg_11 rfl (v := (gA z 10 a1)) h3 rfl dX5_isBefore_14 ?_
    refine ww_aload_n X dX5_isBefore_15 0 rfl ?_
    refine ww_get X in_X5_isBefore_X5 0 mg_0 rfl 17 (by decide) (X.wd 2 rfl) (v := .ref (ad 11)) rfl dX5_isBefore_16 ?_
    refine ww_iload_n X dX5_isBefore_19 2 rfl ?_
    obtain ⟨h4, hp⟩ := hp
    refine ww_zald X 11 2 mg_11 rfl (v := (gA z 10 a2)) h4 rfl dX5_isBefore_20 ?_
    refine ww_icmp_eq X (tgt := 36) dX5_isBefore_21 (by decide) (fun h5 => ?_) (fun h5 => ?_)
    · have hp := hp.1 h5
      refine ww_aload_n X dX5_isBefore_36 0 rfl ?_
      refine ww_get X in_X5_isBefore_X5 0 mg_0 rfl 19 (by decide) (X.wd 3 rfl) (v := .ref (ad 13)) rfl dX5_isBefore_37 ?_
      refine ww_iload_n X dX5_isBefore_40 1 rfl ?_
      obtain ⟨h6, hp⟩ := hp
      refine ww_iald X 13 1 mg_13 rfl (v := (gA z 12 a1)) h6 rfl dX5_isBefore_41 ?_
      refine ww_aload_n X dX5_isBefore_42 0 rfl ?_
      refine ww_get X in_X5_isBefore_X5 0 mg_0 rfl 19 (by decide) (X.wd 3 rfl) (v := .ref (ad 13)) rfl dX5_isBefore_43 ?_
      refine ww_iload_n X dX5_isBefore_46 2 rfl ?_
      obtain ⟨h7, hp⟩ := hp
      refine ww_iald X 13 1 mg_13 rfl (v := (gA z 12 a2)) h7 rfl dX5_isBefore_47 ?_
      refine ww_icmp_le X (tgt := 55) dX5_isBefore_48 (by decide) (fun h8 => ?_) (fun h8 => ?_)
      · have hp := hp.1 h8
        exact ww_sub (lv' := [(0, .ref (ad 0))]) [0] rfl (wX5_isBefore_b55 X   z hp)
      · have hp := hp.2 h8
        exact ww_sub (lv' := [(0, .ref (ad 0))]) [0] rfl (wX5_isBefore_b51 X   z hp)
    · have hp := hp.2 h5
      refine ww_aload_n X dX5_isBefore_24 0 rfl ?_
      refine ww_get X in_X5_isBefore_X5 0 mg_0 rfl 17 (by decide) (X.wd 2 rfl) (v := .ref (ad 11)) rfl dX5_isBefore_25 ?_
      refine ww_iload_n X dX5_isBefore_28 1 rfl ?_
      obtain ⟨h9, hp⟩ := hp
      refine ww_zald X 11 2 mg_11 rfl (v := (gA z 10 a1)) h9 rfl dX5_isBefore_29 ?_
      refine ww_if_eq X (tgt := 55) dX5_isBefore_30 (by decide) (fun h10 => ?_) (fun h10 => ?_)
      · have hp := hp.1 h10
        exact ww_sub (lv' := [(0, .ref (ad 0))]) [0] rfl (wX5_isBefore_b55 X   z hp)
      · have hp := hp.2 h10
        refine ww_goto X (tgt := 51) dX5_isBefore_33 (by decide) ?_
        exact ww_sub (lv' := [(0, .ref (ad 0))]) [0] rfl (wX5_isBefore_b51 X   z hp)
set_option maxHeartbeats 4000000 in
set_option maxRecDepth 100000 in
theorem wX5_place_b27 {p : Program} {l : Launch} {e : Env} {s : State} {m : MethodId} {args : Array Value} {below : List Frame} {meth : Method} {c : Code} {D : va_G} {A : Nat → Prop} {ad : Nat → Nat} {cB cI cZ : ClassId} {post : Int32 → Sg → Prop} {K4 : Int32 → Int32 → Int32 → Sg → Prop} (X : Cx p s m args meth c cX5_place 4 (some .int) RX5 wsX5_place D (tyL cB cI cZ) A) (hK4 : ∀ (x1 x2 x3 : Int32) (z : Sg), K4 x1 x2 x3 z → WW p l e rmX5_place s m args below meth c 4 D A (mW ad cB cI cZ) (QI below args s D (tyL cB cI cZ) (mW ad cB cI cZ) A post) z 4 [(0, .ref (ad 0)), (1, .int x1), (2, .int x2), (3, .int x3)] []) (x1 x3 y0 y1 : Int32) (z : Sg) (hp : pX5_place_b27 K4 post x1 x3 y0 y1 z) : WW p l e rmX5_place s m args below meth c 4 D A (mW ad cB cI cZ) (QI below args s D (tyL cB cI cZ) (mW ad cB cI cZ) A post) z 27 [(0, .ref (ad 0)), (1, .int x1), (3, .int x3)] [.int y0, .int y1] := by
  unfold pX5_place_b27 at hp
  refine ww_iadd X dX5_place_27 ?_
  refine ww_top (fun v1 hv1 => ?_)
  have hp := hp v1 hv1
  refine ww_istore_n X (lv' := [(2, .int v1), (0, .ref (ad 0)), (1, .int x1), (3, .int x3)]) dX5_place_28 (by decide) rfl ?_
  refine ww_iinc X (v := (x3 + 1)) (lv' := [(3, .int (x3 + 1)), (2, .int v1), (0, .ref (ad 0)), (1, .int x1)]) dX5_place_29 3 rfl rfl (by decide) rfl ?_
  refine ww_goto X (tgt := 4) dX5_place_32 (by decide) ?_
  exact ww_sub (lv' := [(0, .ref (ad 0)), (1, .int x1), (2, .int v1), (3, .int (x3 + 1))]) [2, 3, 1, 0] rfl (hK4 x1 v1 (x3 + 1) z hp)
set_option maxHeartbeats 4000000 in
set_option maxRecDepth 100000 in
theorem wX5_place_b4 {p : Program} {l : Launch} {e : Env} {s : State} {m : MethodId} {args : Array Value} {below : List Frame} {meth : Method} {c : Code} {D : va_G} {A : Nat → Prop} {ad : Nat → Nat} {cB cI cZ : ClassId} {post : Int32 → Sg → Prop} {K4 : Int32 → Int32 → Int32 → Sg → Prop} (X : Cx p s m args meth c cX5_place 4 (some .int) RX5 wsX5_place D (tyL cB cI cZ) A) (hK4 : ∀ (x1 x2 x3 : Int32) (z : Sg), K4 x1 x2 x3 z → WW p l e rmX5_place s m args below meth c 4 D A (mW ad cB cI cZ) (QI below args s D (tyL cB cI cZ) (mW ad cB cI cZ) A post) z 4 [(0, .ref (ad 0)), (1, .int x1), (2, .int x2), (3, .int x3)] []) (x1 x2 x3 : Int32) (z : Sg) (hp : pX5_place_b4 K4 post x1 x2 x3 z) : WW p l e rmX5_place s m args below meth c 4 D A (mW ad cB cI cZ) (QI below args s D (tyL cB cI cZ) (mW ad cB cI cZ) A post) z 4 [(0, .ref (ad 0)), (1, .int x1), (2, .int x2), (3, .int x3)] [] := by
  unfold pX5_place_b4 at hp
  refine ww_iload_n X dX5_place_4 3 rfl ?_
  refine ww_aload_n X dX5_place_5 0 rfl ?_
  refine ww_get X in_X5_place_X5 0 mg_0 rfl 4 (by decide) (X.wd 1 rfl) (v := .int (z.1 1)) rfl dX5_place_6 ?_
  refine ww_icmp_ge X (tgt := 35) dX5_place_9 (by decide) (fun h1 => ?_) (fun h1 => ?_)
  · have hp := hp.1 h1
    refine ww_iload_n X dX5_place_35 2 rfl ?_
    exact ww_iret X hp dX5_place_36
  · have hp := hp.2 h1
    refine ww_iload_n X dX5_place_12 2 rfl ?_
    refine ww_aload_n X dX5_place_13 0 rfl ?_
    refine ww_iload_n X dX5_place_14 3 rfl ?_
    refine ww_iload_n X dX5_place_15 1 rfl ?_
    refine ww_callV_i X (As := [.int x3, .int x1]) (rest := [.int x2]) (kX5_isBefore l D ad cB cI cZ x3 x1 z _ hp) (cwV 2 X.hts gX5_place_X5_isBefore rfl rfl rfl hd_X5_isBefore ⟨Nat.le_of_ble_eq_true rfl, Nat.le_of_ble_eq_true rfl⟩) 0 5 mg_0 rfl rfl rfl rfl (Nat.le_of_ble_eq_true rfl) dX5_place_16 (fun r3 u2 hp => ?_)
    refine ww_if_eq X (tgt := 26) dX5_place_19 (by decide) (fun h4 => ?_) (fun h4 => ?_)
    · have hp := hp.1 h4
      refine ww_iconst X (v := 0) dX5_place_26 (by decide) ?_
      exact ww_sub (lv' := [(0, .ref (ad 0)), (1, .int x1), (3, .int x3)]) [0, 1, 3] rfl (wX5_place_b27 X hK4 x1 x3 0 x2 u2 hp)
    · have hp := hp.2 h4
      refine ww_iconst X (v := 1) dX5_place_22 (by decide) ?_
      refine ww_goto X (tgt := 27) dX5_place_23 (by decide) ?_
      exact ww_sub (lv' := [(0, .ref (ad 0)), (1, .int x1), (3, .int x3)]) [0, 1, 3] rfl (wX5_place_b27 X hK4 x1 x3 1 x2 u2 hp)
set_option maxHeartbeats 4000000 in
set_option maxRecDepth 100000 in
theorem wX5_place_l4 {p : Program} {l : Launch} {e : Env} {s : State} {m : MethodId} {args : Array Value} {below : List Frame} {meth : Method} {c : Code} {D : va_G} {A : Nat → Prop} {ad : Nat → Nat} {cB cI cZ : ClassId} {post : Int32 → Sg → Prop}  (X : Cx p s m args meth c cX5_place 4 (some .int) RX5 wsX5_place D (tyL cB cI cZ) A)  (x1 x2 x3 : Int32) (z : Sg) (hp : pX5_place_l4  post x1 x2 x3 z) : WW p l e rmX5_place s m args below meth c 4 D A (mW ad cB cI cZ) (QI below args s D (tyL cB cI cZ) (mW ad cB cI cZ) A post) z 4 [(0, .ref (ad 0)), (1, .int x1), (2, .int x2), (3, .int x3)] [] := by
  have key := lp_walk (F := (fun (K : Int32 × Int32 × Int32 → Sg → Prop) (a : Int32 × Int32 × Int32) (z : Sg) => pX5_place_b4 (fun (x1 x2 x3 : Int32) z => K (x1, x2, x3) z) post a.1 a.2.1 a.2.2 z)) (P := fun a z => WW p l e rmX5_place s m args below meth c 4 D A (mW ad cB cI cZ) (QI below args s D (tyL cB cI cZ) (mW ad cB cI cZ) A post) z 4 [(0, .ref (ad 0)), (1, .int a.1), (2, .int a.2.1), (3, .int a.2.2)] []) (fun K hK a z hp => wX5_place_b4 X (fun x1 x2 x3 z h => hK (x1, x2, x3) z h) a.1 a.2.1 a.2.2 z hp)
  exact key (x1, x2, x3) z hp
set_option maxHeartbeats 4000000 in
set_option maxRecDepth 100000 in
theorem kX5_place (l : Launch) (D : va_G) (ad : Nat → Nat) (cB cI cZ : ClassId) (a1 : Int32) (z : Sg) (post : Int32 → Sg → Prop) (hp : pX5_place a1 z post) : Ci l D (tyL cB cI cZ) (mW ad cB cI cZ) yX5_place wsX5_place rmX5_place [.ref (ad 0), .int a1] z post := by
  refine Ci.of (cc := cX5_place) (maxL := 4) (ret := (some .int)) (by decide) rfl (Nat.le_of_ble_eq_true rfl) ?_
  intro p e s m args below meth c A X
  have X : Cx p s m args meth c cX5_place 4 (some .int) RX5 wsX5_place D (tyL cB cI cZ) A := X
  show WW p l e rmX5_place s m args below meth c 4 D A (mW ad cB cI cZ) (QI below args s D (tyL cB cI cZ) (mW ad cB cI cZ) A post) z 0 [(0, .ref (ad 0)), (1, .int a1)] []
  unfold pX5_place at hp
  refine ww_iconst X (v := 1) dX5_place_0 (by decide) ?_
  refine ww_istore_n X (lv' := [(2, .int 1), (0, .ref (ad 0)), (1, .int a1)]) dX5_place_1 (by decide) rfl ?_
  refine ww_iconst X (v := 0) dX5_place_2 (by decide) ?_
  refine ww_istore_n X (lv' := [(3, .int 0), (2, .int 1), (0, .ref (ad 0)), (1, .int a1)]) dX5_place_3 (by decide) rfl ?_
  exact ww_sub (lv' := [(0, .ref (ad 0)), (1, .int a1), (2, .int 1), (3, .int 0)]) [2, 3, 1, 0] rfl (wX5_place_l4 X  a1 1 0 z hp)
set_option maxHeartbeats 4000000 in
set_option maxRecDepth 100000 in
theorem wX5_told_b115 {p : Program} {l : Launch} {e : Env} {s : State} {m : MethodId} {args : Array Value} {below : List Frame} {meth : Method} {c : Code} {D : va_G} {A : Nat → Prop} {ad : Nat → Nat} {cB cI cZ : ClassId} {post : Int32 → Sg → Prop}  (X : Cx p s m args meth c cX5_told 4 (some .int) RX5 wsX5_told D (tyL cB cI cZ) A)  (y0 : Int32) (z : Sg) (hp : pX5_told_b115  post y0 z) : WW p l e rmX5_told s m args below meth c 4 D A (mW ad cB cI cZ) (QI below args s D (tyL cB cI cZ) (mW ad cB cI cZ) A post) z 115 [(0, .ref (ad 0))] [.int y0] := by
  unfold pX5_told_b115 at hp
  exact ww_iret X hp dX5_told_115
set_option maxHeartbeats 4000000 in
set_option maxRecDepth 100000 in
theorem wX5_told_b80 {p : Program} {l : Launch} {e : Env} {s : State} {m : MethodId} {args : Array Value} {below : List Frame} {meth : Method} {c : Code} {D : va_G} {A : Nat → Prop} {ad : Nat → Nat} {cB cI cZ : ClassId} {post : Int32 → Sg → Prop}  (X : Cx p s m args meth c cX5_told 4 (some .int) RX5 wsX5_told D (tyL cB cI cZ) A)  (y0 : Int32) (z : Sg) (hp : pX5_told_b80  post y0 z) : WW p l e rmX5_told s m args below meth c 4 D A (mW ad cB cI cZ) (QI below args s D (tyL cB cI cZ) (mW ad cB cI cZ) A post) z 80 [(0, .ref (ad 0))] [.int y0] := by
  unfold pX5_told_b80 at hp
  exact ww_iret X hp dX5_told_80
set_option maxHeartbeats 4000000 in
set_option maxRecDepth 100000 in
theorem wX5_told_b53 {p : Program} {l : Launch} {e : Env} {s : State} {m : MethodId} {args : Array Value} {below : List Frame} {meth : Method} {c : Code} {D : va_G} {A : Nat → Prop} {ad : Nat → Nat} {cB cI cZ : ClassId} {post : Int32 → Sg → Prop}  (X : Cx p s m args meth c cX5_told 4 (some .int) RX5 wsX5_told D (tyL cB cI cZ) A)  (z : Sg) (hp : pX5_told_b53  post  z) : WW p l e rmX5_told s m args below meth c 4 D A (mW ad cB cI cZ) (QI below args s D (tyL cB cI cZ) (mW ad cB cI cZ) A post) z 53 [(0, .ref (ad 0))] [] := by
  unfold pX5_told_b53 at hp
  refine ww_sipush X (v := (-10000)) dX5_told_53 (by decide) ?_
  exact ww_iret X hp dX5_told_56
set_option maxHeartbeats 4000000 in
set_option maxRecDepth 100000 in
theorem kX5_told (l : Launch) (D : va_G) (ad : Nat → Nat) (cB cI cZ : ClassId) (a1 a2 a3 : Int32) (z : Sg) (post : Int32 → Sg → Prop) (hp : pX5_told a1 a2 a3 z post) : Ci l D (tyL cB cI cZ) (mW ad cB cI cZ) yX5_told wsX5_told rmX5_told [.ref (ad 0), .int a1, .int a2, .int a3] z post := by
  refine Ci.of (cc := cX5_told) (maxL := 4) (ret := (some .int)) (by decide) rfl (Nat.le_of_ble_eq_true rfl) ?_
  intro p e s m args below meth c A X
  have X : Cx p s m args meth c cX5_told 4 (some .int) RX5 wsX5_told D (tyL cB cI cZ) A := X
  show WW p l e rmX5_told s m args below meth c 4 D A (mW ad cB cI cZ) (QI below args s D (tyL cB cI cZ) (mW ad cB cI cZ) A post) z 0 [(0, .ref (ad 0)), (1, .int a1), (2, .int a2), (3, .int a3)] []
  unfold pX5_told at hp
  refine ww_aload_n X dX5_told_0 0 rfl ?_
  refine ww_iload_n X dX5_told_1 2 rfl ?_
  refine ww_callV_i X (As := [.int a2]) (rest := []) (kX5_isJumper l D ad cB cI cZ a2 z _ hp) (cwV 1 X.hts gX5_told_X5_isJumper rfl rfl rfl hd_X5_isJumper ⟨Nat.le_of_ble_eq_true rfl, Nat.le_of_ble_eq_true rfl⟩) 0 5 mg_0 rfl rfl rfl rfl (Nat.le_of_ble_eq_true rfl) dX5_told_2 (fun r2 u1 hp => ?_)
  refine ww_if_ne X (tgt := 12) dX5_told_5 (by decide) (fun h3 => ?_) (fun h3 => ?_)
  · have hp := hp.1 h3
    refine ww_iload_n X dX5_told_12 3 rfl ?_
    refine ww_iconst X (v := 3) dX5_told_13 (by decide) ?_
    refine ww_icmp_ne X (tgt := 24) dX5_told_14 (by decide) (fun h4 => ?_) (fun h4 => ?_)
    · have hp := hp.1 h4
      refine ww_iload_n X dX5_told_24 3 rfl ?_
      refine ww_iconst X (v := 4) dX5_told_25 (by decide) ?_
      refine ww_icmp_ne X (tgt := 36) dX5_told_26 (by decide) (fun h5 => ?_) (fun h5 => ?_)
      · have hp := hp.1 h5
        refine ww_aload_n X dX5_told_36 0 rfl ?_
        refine ww_iload_n X dX5_told_37 1 rfl ?_
        refine ww_callV_i X (As := [.int a1]) (rest := []) (kX5_isKnowing l D ad cB cI cZ a1 u1 _ hp) (cwV 1 X.hts gX5_told_X5_isKnowing rfl rfl rfl hd_X5_isKnowing ⟨Nat.le_of_ble_eq_true rfl, Nat.le_of_ble_eq_true rfl⟩) 0 5 mg_0 rfl rfl rfl rfl (Nat.le_of_ble_eq_true rfl) dX5_told_38 (fun r7 u6 hp => ?_)
        refine ww_if_eq X (tgt := 53) dX5_told_41 (by decide) (fun h8 => ?_) (fun h8 => ?_)
        · have hp := hp.1 h8
          exact ww_sub (lv' := [(0, .ref (ad 0))]) [0] rfl (wX5_told_b53 X   u6 hp)
        · have hp := hp.2 h8
          refine ww_iload_n X dX5_told_44 3 rfl ?_
          refine ww_iconst X (v := 0) dX5_told_45 (by decide) ?_
          refine ww_iconst X (v := 2) dX5_told_46 (by decide) ?_
          refine ww_callS_i X (As := [.int a3, .int 0, .int 2]) (rest := []) (kX5_lies l D ad cB cI cZ a3 0 2 u6 _ hp) (va_cwS 3 X.hts gX5_told_X5_lies rfl rfl rfl hn_X5_lies ⟨Nat.le_of_ble_eq_true rfl, Nat.le_of_ble_eq_true rfl⟩) rfl rfl (Nat.le_of_ble_eq_true rfl) dX5_told_47 (fun r10 u9 hp => ?_)
          refine ww_if_ne X (tgt := 57) dX5_told_50 (by decide) (fun h11 => ?_) (fun h11 => ?_)
          · have hp := hp.1 h11
            refine ww_aload_n X dX5_told_57 0 rfl ?_
            refine ww_iload_n X dX5_told_58 1 rfl ?_
            refine ww_callV_v X (As := [.int a1]) (rest := []) (kX5_works l D ad cB cI cZ a1 u9 _ hp) (cwV 1 X.hts gX5_told_X5_works rfl rfl rfl hd_X5_works ⟨Nat.le_of_ble_eq_true rfl, Nat.le_of_ble_eq_true rfl⟩) 0 5 mg_0 rfl rfl rfl rfl (Nat.le_of_ble_eq_true rfl) dX5_told_59 (fun u12 hp => ?_)
            refine ww_iload_n X dX5_told_62 3 rfl ?_
            refine ww_if_ne X (tgt := 81) dX5_told_63 (by decide) (fun h14 => ?_) (fun h14 => ?_)
            · have hp := hp.1 h14
              refine ww_aload_n X dX5_told_81 0 rfl ?_
              refine ww_get X in_X5_told_X5 0 mg_0 rfl 16 (by decide) (X.wd 4 rfl) (v := .ref (ad 10)) rfl dX5_told_82 ?_
              refine ww_iload_n X dX5_told_85 2 rfl ?_
              obtain ⟨h15, hp⟩ := hp
              refine ww_zald X 10 2 mg_10 rfl (v := (gA u12 9 a2)) h15 rfl dX5_told_86 ?_
              refine ww_if_ne X (tgt := 96) dX5_told_87 (by decide) (fun h16 => ?_) (fun h16 => ?_)
              · have hp := hp.1 h16
                refine ww_iload_n X dX5_told_96 3 rfl ?_
                refine ww_iconst X (v := 1) dX5_told_97 (by decide) ?_
                refine ww_icmp_ne X (tgt := 110) dX5_told_98 (by decide) (fun h17 => ?_) (fun h17 => ?_)
                · have hp := hp.1 h17
                  refine ww_aload_n X dX5_told_110 0 rfl ?_
                  refine ww_iload_n X dX5_told_111 2 rfl ?_
                  refine ww_callV_i X (As := [.int a2]) (rest := []) (kX5_place l D ad cB cI cZ a2 u12 _ hp) (cwV 1 X.hts gX5_told_X5_place rfl rfl rfl hd_X5_place ⟨Nat.le_of_ble_eq_true rfl, Nat.le_of_ble_eq_true rfl⟩) 0 5 mg_0 rfl rfl rfl rfl (Nat.le_of_ble_eq_true rfl) dX5_told_112 (fun r19 u18 hp => ?_)
                  exact ww_sub (lv' := [(0, .ref (ad 0))]) [0] rfl (wX5_told_b115 X  r19 u18 hp)
                · have hp := hp.2 h17
                  refine ww_aload_n X dX5_told_101 0 rfl ?_
                  refine ww_get X in_X5_told_X5 0 mg_0 rfl 19 (by decide) (X.wd 5 rfl) (v := .ref (ad 13)) rfl dX5_told_102 ?_
                  refine ww_iload_n X dX5_told_105 2 rfl ?_
                  obtain ⟨h20, hp⟩ := hp
                  refine ww_iald X 13 1 mg_13 rfl (v := (gA u12 12 a2)) h20 rfl dX5_told_106 ?_
                  refine ww_goto X (tgt := 115) dX5_told_107 (by decide) ?_
                  exact ww_sub (lv' := [(0, .ref (ad 0))]) [0] rfl (wX5_told_b115 X  (gA u12 12 a2) u12 hp)
              · have hp := hp.2 h16
                refine ww_sipush X (v := (-10000)) dX5_told_90 (by decide) ?_
                refine ww_goto X (tgt := 115) dX5_told_93 (by decide) ?_
                exact ww_sub (lv' := [(0, .ref (ad 0))]) [0] rfl (wX5_told_b115 X  (-10000) u12 hp)
            · have hp := hp.2 h14
              refine ww_aload_n X dX5_told_66 0 rfl ?_
              refine ww_get X in_X5_told_X5 0 mg_0 rfl 17 (by decide) (X.wd 3 rfl) (v := .ref (ad 11)) rfl dX5_told_67 ?_
              refine ww_iload_n X dX5_told_70 2 rfl ?_
              obtain ⟨h21, hp⟩ := hp
              refine ww_zald X 11 2 mg_11 rfl (v := (gA u12 10 a2)) h21 rfl dX5_told_71 ?_
              refine ww_if_eq X (tgt := 79) dX5_told_72 (by decide) (fun h22 => ?_) (fun h22 => ?_)
              · have hp := hp.1 h22
                refine ww_iconst X (v := 0) dX5_told_79 (by decide) ?_
                exact ww_sub (lv' := [(0, .ref (ad 0))]) [0] rfl (wX5_told_b80 X  0 u12 hp)
              · have hp := hp.2 h22
                refine ww_iconst X (v := 1) dX5_told_75 (by decide) ?_
                refine ww_goto X (tgt := 80) dX5_told_76 (by decide) ?_
                exact ww_sub (lv' := [(0, .ref (ad 0))]) [0] rfl (wX5_told_b80 X  1 u12 hp)
          · have hp := hp.2 h11
            exact ww_sub (lv' := [(0, .ref (ad 0))]) [0] rfl (wX5_told_b53 X   u9 hp)
      · have hp := hp.2 h5
        refine ww_aload_n X dX5_told_29 0 rfl ?_
        refine ww_get X in_X5_told_X5 0 mg_0 rfl 9 (by decide) (X.wd 2 rfl) (v := .ref (ad 5)) rfl dX5_told_30 ?_
        refine ww_iload_n X dX5_told_33 2 rfl ?_
        obtain ⟨h23, hp⟩ := hp
        refine ww_iald X 5 1 mg_5 rfl (v := (gA u1 4 a2)) h23 rfl dX5_told_34 ?_
        exact ww_iret X hp dX5_told_35
    · have hp := hp.2 h4
      refine ww_aload_n X dX5_told_17 0 rfl ?_
      refine ww_get X in_X5_told_X5 0 mg_0 rfl 8 (by decide) (X.wd 1 rfl) (v := .ref (ad 4)) rfl dX5_told_18 ?_
      refine ww_iload_n X dX5_told_21 2 rfl ?_
      obtain ⟨h24, hp⟩ := hp
      refine ww_iald X 4 1 mg_4 rfl (v := (gA u1 3 a2)) h24 rfl dX5_told_22 ?_
      exact ww_iret X hp dX5_told_23
  · have hp := hp.2 h3
    refine ww_sipush X (v := (-10000)) dX5_told_8 (by decide) ?_
    exact ww_iret X hp dX5_told_11
set_option maxHeartbeats 4000000 in
set_option maxRecDepth 100000 in
theorem wX5_list_b123 {p : Program} {l : Launch} {e : Env} {s : State} {m : MethodId} {args : Array Value} {below : List Frame} {meth : Method} {c : Code} {D : va_G} {A : Nat → Prop} {ad : Nat → Nat} {cB cI cZ : ClassId} {post : Int32 → Sg → Prop} {K19 : Int32 → Int32 → Sg → Prop} (X : Cx p s m args meth c cX5_list 6 (some .int) RX5 wsX5_list D (tyL cB cI cZ) A) (hK19 : ∀ (x2 x3 : Int32) (z : Sg), K19 x2 x3 z → WW p l e rmX5_list s m args below meth c 6 D A (mW ad cB cI cZ) (QI below args s D (tyL cB cI cZ) (mW ad cB cI cZ) A post) z 19 [(0, .ref (ad 0)), (2, .int x2), (3, .int x3)] []) (x2 x3 : Int32) (z : Sg) (hp : pX5_list_b123 K19 post x2 x3 z) : WW p l e rmX5_list s m args below meth c 6 D A (mW ad cB cI cZ) (QI below args s D (tyL cB cI cZ) (mW ad cB cI cZ) A post) z 123 [(0, .ref (ad 0)), (2, .int x2), (3, .int x3)] [] := by
  unfold pX5_list_b123 at hp
  refine ww_iinc X (v := (x3 + 1)) (lv' := [(3, .int (x3 + 1)), (0, .ref (ad 0)), (2, .int x2)]) dX5_list_123 2 rfl rfl (by decide) rfl ?_
  refine ww_goto X (tgt := 19) dX5_list_126 (by decide) ?_
  exact ww_sub (lv' := [(0, .ref (ad 0)), (2, .int x2), (3, .int (x3 + 1))]) [1, 2, 0] rfl (hK19 x2 (x3 + 1) z hp)
set_option maxHeartbeats 4000000 in
set_option maxRecDepth 100000 in
theorem wX5_list_b106 {p : Program} {l : Launch} {e : Env} {s : State} {m : MethodId} {args : Array Value} {below : List Frame} {meth : Method} {c : Code} {D : va_G} {A : Nat → Prop} {ad : Nat → Nat} {cB cI cZ : ClassId} {post : Int32 → Sg → Prop} {K19 : Int32 → Int32 → Sg → Prop} {K51 : Int32 → Int32 → Int32 → Int32 → Sg → Prop} (X : Cx p s m args meth c cX5_list 6 (some .int) RX5 wsX5_list D (tyL cB cI cZ) A) (hK19 : ∀ (x2 x3 : Int32) (z : Sg), K19 x2 x3 z → WW p l e rmX5_list s m args below meth c 6 D A (mW ad cB cI cZ) (QI below args s D (tyL cB cI cZ) (mW ad cB cI cZ) A post) z 19 [(0, .ref (ad 0)), (2, .int x2), (3, .int x3)] []) (hK51 : ∀ (x2 x3 x4 x5 : Int32) (z : Sg), K51 x2 x3 x4 x5 z → WW p l e rmX5_list s m args below meth c 6 D A (mW ad cB cI cZ) (QI below args s D (tyL cB cI cZ) (mW ad cB cI cZ) A post) z 51 [(0, .ref (ad 0)), (2, .int x2), (3, .int x3), (4, .int x4), (5, .int x5)] []) (x2 x3 x5 y0 y1 : Int32) (z : Sg) (hp : pX5_list_b106 K19 K51 post x2 x3 x5 y0 y1 z) : WW p l e rmX5_list s m args below meth c 6 D A (mW ad cB cI cZ) (QI below args s D (tyL cB cI cZ) (mW ad cB cI cZ) A post) z 106 [(0, .ref (ad 0)), (2, .int x2), (3, .int x3), (5, .int x5)] [.int y0, .int y1] := by
  unfold pX5_list_b106 at hp
  refine ww_iadd X dX5_list_106 ?_
  refine ww_top (fun v1 hv1 => ?_)
  have hp := hp v1 hv1
  refine ww_istore X (lv' := [(4, .int v1), (0, .ref (ad 0)), (2, .int x2), (3, .int x3), (5, .int x5)]) dX5_list_107 (by decide) rfl ?_
  refine ww_iinc X (v := (x5 + 1)) (lv' := [(5, .int (x5 + 1)), (4, .int v1), (0, .ref (ad 0)), (2, .int x2), (3, .int x3)]) dX5_list_109 4 rfl rfl (by decide) rfl ?_
  refine ww_goto X (tgt := 51) dX5_list_112 (by decide) ?_
  exact ww_sub (lv' := [(0, .ref (ad 0)), (2, .int x2), (3, .int x3), (4, .int v1), (5, .int (x5 + 1))]) [2, 3, 4, 1, 0] rfl (hK51 x2 x3 v1 (x5 + 1) z hp)
set_option maxHeartbeats 4000000 in
set_option maxRecDepth 100000 in
theorem wX5_list_b105 {p : Program} {l : Launch} {e : Env} {s : State} {m : MethodId} {args : Array Value} {below : List Frame} {meth : Method} {c : Code} {D : va_G} {A : Nat → Prop} {ad : Nat → Nat} {cB cI cZ : ClassId} {post : Int32 → Sg → Prop} {K19 : Int32 → Int32 → Sg → Prop} {K51 : Int32 → Int32 → Int32 → Int32 → Sg → Prop} (X : Cx p s m args meth c cX5_list 6 (some .int) RX5 wsX5_list D (tyL cB cI cZ) A) (hK19 : ∀ (x2 x3 : Int32) (z : Sg), K19 x2 x3 z → WW p l e rmX5_list s m args below meth c 6 D A (mW ad cB cI cZ) (QI below args s D (tyL cB cI cZ) (mW ad cB cI cZ) A post) z 19 [(0, .ref (ad 0)), (2, .int x2), (3, .int x3)] []) (hK51 : ∀ (x2 x3 x4 x5 : Int32) (z : Sg), K51 x2 x3 x4 x5 z → WW p l e rmX5_list s m args below meth c 6 D A (mW ad cB cI cZ) (QI below args s D (tyL cB cI cZ) (mW ad cB cI cZ) A post) z 51 [(0, .ref (ad 0)), (2, .int x2), (3, .int x3), (4, .int x4), (5, .int x5)] []) (x2 x3 x5 y0 : Int32) (z : Sg) (hp : pX5_list_b105 K19 K51 post x2 x3 x5 y0 z) : WW p l e rmX5_list s m args below meth c 6 D A (mW ad cB cI cZ) (QI below args s D (tyL cB cI cZ) (mW ad cB cI cZ) A post) z 105 [(0, .ref (ad 0)), (2, .int x2), (3, .int x3), (5, .int x5)] [.int y0] := by
  unfold pX5_list_b105 at hp
  refine ww_iconst X (v := 0) dX5_list_105 (by decide) ?_
  exact wX5_list_b106 X hK19 hK51 x2 x3 x5 0 y0 z hp
set_option maxHeartbeats 4000000 in
set_option maxRecDepth 100000 in
theorem wX5_list_b51 {p : Program} {l : Launch} {e : Env} {s : State} {m : MethodId} {args : Array Value} {below : List Frame} {meth : Method} {c : Code} {D : va_G} {A : Nat → Prop} {ad : Nat → Nat} {cB cI cZ : ClassId} {post : Int32 → Sg → Prop} {K19 : Int32 → Int32 → Sg → Prop} {K51 : Int32 → Int32 → Int32 → Int32 → Sg → Prop} (X : Cx p s m args meth c cX5_list 6 (some .int) RX5 wsX5_list D (tyL cB cI cZ) A) (hK19 : ∀ (x2 x3 : Int32) (z : Sg), K19 x2 x3 z → WW p l e rmX5_list s m args below meth c 6 D A (mW ad cB cI cZ) (QI below args s D (tyL cB cI cZ) (mW ad cB cI cZ) A post) z 19 [(0, .ref (ad 0)), (2, .int x2), (3, .int x3)] []) (hK51 : ∀ (x2 x3 x4 x5 : Int32) (z : Sg), K51 x2 x3 x4 x5 z → WW p l e rmX5_list s m args below meth c 6 D A (mW ad cB cI cZ) (QI below args s D (tyL cB cI cZ) (mW ad cB cI cZ) A post) z 51 [(0, .ref (ad 0)), (2, .int x2), (3, .int x3), (4, .int x4), (5, .int x5)] []) (x2 x3 x4 x5 : Int32) (z : Sg) (hp : pX5_list_b51 K19 K51 post x2 x3 x4 x5 z) : WW p l e rmX5_list s m args below meth c 6 D A (mW ad cB cI cZ) (QI below args s D (tyL cB cI cZ) (mW ad cB cI cZ) A post) z 51 [(0, .ref (ad 0)), (2, .int x2), (3, .int x3), (4, .int x4), (5, .int x5)] [] := by
  unfold pX5_list_b51 at hp
  refine ww_iload X dX5_list_51 4 rfl ?_
  refine ww_iload_n X dX5_list_53 2 rfl ?_
  refine ww_icmp_ge X (tgt := 115) dX5_list_54 (by decide) (fun h1 => ?_) (fun h1 => ?_)
  · have hp := hp.1 h1
    refine ww_iload X dX5_list_115 3 rfl ?_
    refine ww_iload_n X dX5_list_117 1 rfl ?_
    refine ww_icmp_ne X (tgt := 123) dX5_list_118 (by decide) (fun h2 => ?_) (fun h2 => ?_)
    · have hp := hp.1 h2
      exact ww_sub (lv' := [(0, .ref (ad 0)), (2, .int x2), (3, .int x3)]) [0, 1, 2] rfl (wX5_list_b123 X hK19 x2 x3 z hp)
    · have hp := hp.2 h2
      refine ww_iload_n X dX5_list_121 2 rfl ?_
      exact ww_iret X hp dX5_list_122
  · have hp := hp.2 h1
    refine ww_iload X dX5_list_57 3 rfl ?_
    refine ww_aload_n X dX5_list_59 0 rfl ?_
    refine ww_get X in_X5_list_X5 0 mg_0 rfl 16 (by decide) (X.wd 2 rfl) (v := .ref (ad 10)) rfl dX5_list_60 ?_
    refine ww_iload X dX5_list_63 4 rfl ?_
    obtain ⟨h3, hp⟩ := hp
    refine ww_zald X 10 2 mg_10 rfl (v := (gA z 9 x5)) h3 rfl dX5_list_65 ?_
    refine ww_if_eq X (tgt := 105) dX5_list_66 (by decide) (fun h4 => ?_) (fun h4 => ?_)
    · have hp := hp.1 h4
      exact ww_sub (lv' := [(0, .ref (ad 0)), (2, .int x2), (3, .int x3), (5, .int x5)]) [0, 1, 2, 4] rfl (wX5_list_b105 X hK19 hK51 x2 x3 x5 x4 z hp)
    · have hp := hp.2 h4
      refine ww_aload_n X dX5_list_69 0 rfl ?_
      refine ww_get X in_X5_list_X5 0 mg_0 rfl 17 (by decide) (X.wd 3 rfl) (v := .ref (ad 11)) rfl dX5_list_70 ?_
      refine ww_iload X dX5_list_73 4 rfl ?_
      obtain ⟨h5, hp⟩ := hp
      refine ww_zald X 11 2 mg_11 rfl (v := (gA z 10 x5)) h5 rfl dX5_list_75 ?_
      refine ww_aload_n X dX5_list_76 0 rfl ?_
      refine ww_get X in_X5_list_X5 0 mg_0 rfl 17 (by decide) (X.wd 3 rfl) (v := .ref (ad 11)) rfl dX5_list_77 ?_
      refine ww_iload_n X dX5_list_80 2 rfl ?_
      obtain ⟨h6, hp⟩ := hp
      refine ww_zald X 11 2 mg_11 rfl (v := (gA z 10 x3)) h6 rfl dX5_list_81 ?_
      refine ww_icmp_ne X (tgt := 105) dX5_list_82 (by decide) (fun h7 => ?_) (fun h7 => ?_)
      · have hp := hp.1 h7
        exact ww_sub (lv' := [(0, .ref (ad 0)), (2, .int x2), (3, .int x3), (5, .int x5)]) [0, 1, 2, 4] rfl (wX5_list_b105 X hK19 hK51 x2 x3 x5 x4 z hp)
      · have hp := hp.2 h7
        refine ww_aload_n X dX5_list_85 0 rfl ?_
        refine ww_get X in_X5_list_X5 0 mg_0 rfl 19 (by decide) (X.wd 4 rfl) (v := .ref (ad 13)) rfl dX5_list_86 ?_
        refine ww_iload X dX5_list_89 4 rfl ?_
        obtain ⟨h8, hp⟩ := hp
        refine ww_iald X 13 1 mg_13 rfl (v := (gA z 12 x5)) h8 rfl dX5_list_91 ?_
        refine ww_aload_n X dX5_list_92 0 rfl ?_
        refine ww_get X in_X5_list_X5 0 mg_0 rfl 19 (by decide) (X.wd 4 rfl) (v := .ref (ad 13)) rfl dX5_list_93 ?_
        refine ww_iload_n X dX5_list_96 2 rfl ?_
        obtain ⟨h9, hp⟩ := hp
        refine ww_iald X 13 1 mg_13 rfl (v := (gA z 12 x3)) h9 rfl dX5_list_97 ?_
        refine ww_icmp_ne X (tgt := 105) dX5_list_98 (by decide) (fun h10 => ?_) (fun h10 => ?_)
        · have hp := hp.1 h10
          exact ww_sub (lv' := [(0, .ref (ad 0)), (2, .int x2), (3, .int x3), (5, .int x5)]) [0, 1, 2, 4] rfl (wX5_list_b105 X hK19 hK51 x2 x3 x5 x4 z hp)
        · have hp := hp.2 h10
          refine ww_iconst X (v := 1) dX5_list_101 (by decide) ?_
          refine ww_goto X (tgt := 106) dX5_list_102 (by decide) ?_
          exact ww_sub (lv' := [(0, .ref (ad 0)), (2, .int x2), (3, .int x3), (5, .int x5)]) [0, 1, 2, 4] rfl (wX5_list_b106 X hK19 hK51 x2 x3 x5 1 x4 z hp)
set_option maxHeartbeats 4000000 in
set_option maxRecDepth 100000 in
theorem wX5_list_l51 {p : Program} {l : Launch} {e : Env} {s : State} {m : MethodId} {args : Array Value} {below : List Frame} {meth : Method} {c : Code} {D : va_G} {A : Nat → Prop} {ad : Nat → Nat} {cB cI cZ : ClassId} {post : Int32 → Sg → Prop} {K19 : Int32 → Int32 → Sg → Prop} (X : Cx p s m args meth c cX5_list 6 (some .int) RX5 wsX5_list D (tyL cB cI cZ) A) (hK19 : ∀ (x2 x3 : Int32) (z : Sg), K19 x2 x3 z → WW p l e rmX5_list s m args below meth c 6 D A (mW ad cB cI cZ) (QI below args s D (tyL cB cI cZ) (mW ad cB cI cZ) A post) z 19 [(0, .ref (ad 0)), (2, .int x2), (3, .int x3)] []) (x2 x3 x4 x5 : Int32) (z : Sg) (hp : pX5_list_l51 K19 post x2 x3 x4 x5 z) : WW p l e rmX5_list s m args below meth c 6 D A (mW ad cB cI cZ) (QI below args s D (tyL cB cI cZ) (mW ad cB cI cZ) A post) z 51 [(0, .ref (ad 0)), (2, .int x2), (3, .int x3), (4, .int x4), (5, .int x5)] [] := by
  have key := lp_walk (F := (fun (K : Int32 × Int32 × Int32 × Int32 → Sg → Prop) (a : Int32 × Int32 × Int32 × Int32) (z : Sg) => pX5_list_b51 K19 (fun (x2 x3 x4 x5 : Int32) z => K (x2, x3, x4, x5) z) post a.1 a.2.1 a.2.2.1 a.2.2.2 z)) (P := fun a z => WW p l e rmX5_list s m args below meth c 6 D A (mW ad cB cI cZ) (QI below args s D (tyL cB cI cZ) (mW ad cB cI cZ) A post) z 51 [(0, .ref (ad 0)), (2, .int a.1), (3, .int a.2.1), (4, .int a.2.2.1), (5, .int a.2.2.2)] []) (fun K hK a z hp => wX5_list_b51 X hK19 (fun x2 x3 x4 x5 z h => hK (x2, x3, x4, x5) z h) a.1 a.2.1 a.2.2.1 a.2.2.2 z hp)
  exact key (x2, x3, x4, x5) z hp
set_option maxHeartbeats 4000000 in
set_option maxRecDepth 100000 in
theorem wX5_list_b19 {p : Program} {l : Launch} {e : Env} {s : State} {m : MethodId} {args : Array Value} {below : List Frame} {meth : Method} {c : Code} {D : va_G} {A : Nat → Prop} {ad : Nat → Nat} {cB cI cZ : ClassId} {post : Int32 → Sg → Prop} {K19 : Int32 → Int32 → Sg → Prop} (X : Cx p s m args meth c cX5_list 6 (some .int) RX5 wsX5_list D (tyL cB cI cZ) A) (hK19 : ∀ (x2 x3 : Int32) (z : Sg), K19 x2 x3 z → WW p l e rmX5_list s m args below meth c 6 D A (mW ad cB cI cZ) (QI below args s D (tyL cB cI cZ) (mW ad cB cI cZ) A post) z 19 [(0, .ref (ad 0)), (2, .int x2), (3, .int x3)] []) (x2 x3 : Int32) (z : Sg) (hp : pX5_list_b19 K19 post x2 x3 z) : WW p l e rmX5_list s m args below meth c 6 D A (mW ad cB cI cZ) (QI below args s D (tyL cB cI cZ) (mW ad cB cI cZ) A post) z 19 [(0, .ref (ad 0)), (2, .int x2), (3, .int x3)] [] := by
  unfold pX5_list_b19 at hp
  refine ww_iload_n X dX5_list_19 2 rfl ?_
  refine ww_aload_n X dX5_list_20 0 rfl ?_
  refine ww_get X in_X5_list_X5 0 mg_0 rfl 4 (by decide) (X.wd 1 rfl) (v := .int (z.1 1)) rfl dX5_list_21 ?_
  refine ww_icmp_ge X (tgt := 129) dX5_list_24 (by decide) (fun h1 => ?_) (fun h1 => ?_)
  · have hp := hp.1 h1
    refine ww_sipush X (v := (-10000)) dX5_list_129 (by decide) ?_
    exact ww_iret X hp dX5_list_132
  · have hp := hp.2 h1
    refine ww_aload_n X dX5_list_27 0 rfl ?_
    refine ww_get X in_X5_list_X5 0 mg_0 rfl 16 (by decide) (X.wd 2 rfl) (v := .ref (ad 10)) rfl dX5_list_28 ?_
    refine ww_iload_n X dX5_list_31 2 rfl ?_
    obtain ⟨h2, hp⟩ := hp
    refine ww_zald X 10 2 mg_10 rfl (v := (gA z 9 x3)) h2 rfl dX5_list_32 ?_
    refine ww_if_ne X (tgt := 39) dX5_list_33 (by decide) (fun h3 => ?_) (fun h3 => ?_)
    · have hp := hp.1 h3
      refine ww_aload_n X dX5_list_39 0 rfl ?_
      refine ww_iload_n X dX5_list_40 2 rfl ?_
      refine ww_callV_i X (As := [.int x3]) (rest := []) (kX5_place l D ad cB cI cZ x3 z _ hp) (cwV 1 X.hts gX5_list_X5_place rfl rfl rfl hd_X5_place ⟨Nat.le_of_ble_eq_true rfl, Nat.le_of_ble_eq_true rfl⟩) 0 5 mg_0 rfl rfl rfl rfl (Nat.le_of_ble_eq_true rfl) dX5_list_41 (fun r5 u4 hp => ?_)
      refine ww_iconst X (v := 1) dX5_list_44 (by decide) ?_
      refine ww_isub X dX5_list_45 ?_
      refine ww_top (fun v6 hv6 => ?_)
      have hp := hp v6 hv6
      refine ww_istore X (lv' := [(4, .int v6), (0, .ref (ad 0)), (2, .int x2), (3, .int x3)]) dX5_list_46 (by decide) rfl ?_
      refine ww_iconst X (v := 0) dX5_list_48 (by decide) ?_
      refine ww_istore X (lv' := [(5, .int 0), (4, .int v6), (0, .ref (ad 0)), (2, .int x2), (3, .int x3)]) dX5_list_49 (by decide) rfl ?_
      exact ww_sub (lv' := [(0, .ref (ad 0)), (2, .int x2), (3, .int x3), (4, .int v6), (5, .int 0)]) [2, 3, 4, 1, 0] rfl (wX5_list_l51 X hK19 x2 x3 v6 0 u4 hp)
    · have hp := hp.2 h3
      refine ww_goto X (tgt := 123) dX5_list_36 (by decide) ?_
      exact wX5_list_b123 X hK19 x2 x3 z hp
set_option maxHeartbeats 4000000 in
set_option maxRecDepth 100000 in
theorem wX5_list_l19 {p : Program} {l : Launch} {e : Env} {s : State} {m : MethodId} {args : Array Value} {below : List Frame} {meth : Method} {c : Code} {D : va_G} {A : Nat → Prop} {ad : Nat → Nat} {cB cI cZ : ClassId} {post : Int32 → Sg → Prop}  (X : Cx p s m args meth c cX5_list 6 (some .int) RX5 wsX5_list D (tyL cB cI cZ) A)  (x2 x3 : Int32) (z : Sg) (hp : pX5_list_l19  post x2 x3 z) : WW p l e rmX5_list s m args below meth c 6 D A (mW ad cB cI cZ) (QI below args s D (tyL cB cI cZ) (mW ad cB cI cZ) A post) z 19 [(0, .ref (ad 0)), (2, .int x2), (3, .int x3)] [] := by
  have key := lp_walk (F := (fun (K : Int32 × Int32 → Sg → Prop) (a : Int32 × Int32) (z : Sg) => pX5_list_b19 (fun (x2 x3 : Int32) z => K (x2, x3) z) post a.1 a.2 z)) (P := fun a z => WW p l e rmX5_list s m args below meth c 6 D A (mW ad cB cI cZ) (QI below args s D (tyL cB cI cZ) (mW ad cB cI cZ) A post) z 19 [(0, .ref (ad 0)), (2, .int a.1), (3, .int a.2)] []) (fun K hK a z hp => wX5_list_b19 X (fun x2 x3 z h => hK (x2, x3) z h) a.1 a.2 z hp)
  exact key (x2, x3) z hp
set_option maxHeartbeats 4000000 in
set_option maxRecDepth 100000 in
theorem kX5_list (l : Launch) (D : va_G) (ad : Nat → Nat) (cB cI cZ : ClassId) (a1 a2 : Int32) (z : Sg) (post : Int32 → Sg → Prop) (hp : pX5_list a1 a2 z post) : Ci l D (tyL cB cI cZ) (mW ad cB cI cZ) yX5_list wsX5_list rmX5_list [.ref (ad 0), .int a1, .int a2] z post := by
  refine Ci.of (cc := cX5_list) (maxL := 6) (ret := (some .int)) (by decide) rfl (Nat.le_of_ble_eq_true rfl) ?_
  intro p e s m args below meth c A X
  have X : Cx p s m args meth c cX5_list 6 (some .int) RX5 wsX5_list D (tyL cB cI cZ) A := X
  show WW p l e rmX5_list s m args below meth c 6 D A (mW ad cB cI cZ) (QI below args s D (tyL cB cI cZ) (mW ad cB cI cZ) A post) z 0 [(0, .ref (ad 0)), (1, .int a1), (2, .int a2)] []
  unfold pX5_list at hp
  refine ww_aload_n X dX5_list_0 0 rfl ?_
  refine ww_iload_n X dX5_list_1 1 rfl ?_
  refine ww_callV_i X (As := [.int a1]) (rest := []) (kX5_isKnowing l D ad cB cI cZ a1 z _ hp) (cwV 1 X.hts gX5_list_X5_isKnowing rfl rfl rfl hd_X5_isKnowing ⟨Nat.le_of_ble_eq_true rfl, Nat.le_of_ble_eq_true rfl⟩) 0 5 mg_0 rfl rfl rfl rfl (Nat.le_of_ble_eq_true rfl) dX5_list_2 (fun r2 u1 hp => ?_)
  refine ww_if_ne X (tgt := 12) dX5_list_5 (by decide) (fun h3 => ?_) (fun h3 => ?_)
  · have hp := hp.1 h3
    refine ww_aload_n X dX5_list_12 0 rfl ?_
    refine ww_iload_n X dX5_list_13 1 rfl ?_
    refine ww_callV_v X (As := [.int a1]) (rest := []) (kX5_works l D ad cB cI cZ a1 u1 _ hp) (cwV 1 X.hts gX5_list_X5_works rfl rfl rfl hd_X5_works ⟨Nat.le_of_ble_eq_true rfl, Nat.le_of_ble_eq_true rfl⟩) 0 5 mg_0 rfl rfl rfl rfl (Nat.le_of_ble_eq_true rfl) dX5_list_14 (fun u4 hp => ?_)
    refine ww_iconst X (v := 0) dX5_list_17 (by decide) ?_
    refine ww_istore_n X (lv' := [(3, .int 0), (0, .ref (ad 0)), (1, .int a1), (2, .int a2)]) dX5_list_18 (by decide) rfl ?_
    exact ww_sub (lv' := [(0, .ref (ad 0)), (2, .int a2), (3, .int 0)]) [1, 3, 0] rfl (wX5_list_l19 X  a2 0 u4 hp)
  · have hp := hp.2 h3
    refine ww_sipush X (v := (-10000)) dX5_list_8 (by decide) ?_
    exact ww_iret X hp dX5_list_11
set_option maxHeartbeats 4000000 in
set_option maxRecDepth 100000 in
theorem wX5_start_b162 {p : Program} {l : Launch} {e : Env} {s : State} {m : MethodId} {args : Array Value} {below : List Frame} {meth : Method} {c : Code} {D : va_G} {A : Nat → Prop} {ad : Nat → Nat} {cB cI cZ : ClassId} {post : Int32 → Sg → Prop} {K49 : Int32 → Int32 → Sg → Prop} (X : Cx p s m args meth c cX5_start 7 (some .int) RX5 wsX5_start D (tyL cB cI cZ) A) (hK49 : ∀ (x3 x4 : Int32) (z : Sg), K49 x3 x4 z → WW p l e rmX5_start s m args below meth c 7 D A (mW ad cB cI cZ) (QI below args s D (tyL cB cI cZ) (mW ad cB cI cZ) A post) z 49 [(0, .ref (ad 0)), (3, .int x3), (4, .int x4)] []) (x3 x4 : Int32) (z : Sg) (hp : pX5_start_b162 K49 post x3 x4 z) : WW p l e rmX5_start s m args below meth c 7 D A (mW ad cB cI cZ) (QI below args s D (tyL cB cI cZ) (mW ad cB cI cZ) A post) z 162 [(0, .ref (ad 0)), (3, .int x3), (4, .int x4)] [] := by
  unfold pX5_start_b162 at hp
  refine ww_iinc X (v := (x4 + 1)) (lv' := [(4, .int (x4 + 1)), (0, .ref (ad 0)), (3, .int x3)]) dX5_start_162 2 rfl rfl (by decide) rfl ?_
  refine ww_goto X (tgt := 49) dX5_start_165 (by decide) ?_
  exact ww_sub (lv' := [(0, .ref (ad 0)), (3, .int x3), (4, .int (x4 + 1))]) [1, 2, 0] rfl (hK49 x3 (x4 + 1) z hp)
set_option maxHeartbeats 4000000 in
set_option maxRecDepth 100000 in
theorem wX5_start_b144 {p : Program} {l : Launch} {e : Env} {s : State} {m : MethodId} {args : Array Value} {below : List Frame} {meth : Method} {c : Code} {D : va_G} {A : Nat → Prop} {ad : Nat → Nat} {cB cI cZ : ClassId} {post : Int32 → Sg → Prop} {K49 : Int32 → Int32 → Sg → Prop} {K77 : Int32 → Int32 → Int32 → Int32 → Sg → Prop} (X : Cx p s m args meth c cX5_start 7 (some .int) RX5 wsX5_start D (tyL cB cI cZ) A) (hK49 : ∀ (x3 x4 : Int32) (z : Sg), K49 x3 x4 z → WW p l e rmX5_start s m args below meth c 7 D A (mW ad cB cI cZ) (QI below args s D (tyL cB cI cZ) (mW ad cB cI cZ) A post) z 49 [(0, .ref (ad 0)), (3, .int x3), (4, .int x4)] []) (hK77 : ∀ (x3 x4 x5 x6 : Int32) (z : Sg), K77 x3 x4 x5 x6 z → WW p l e rmX5_start s m args below meth c 7 D A (mW ad cB cI cZ) (QI below args s D (tyL cB cI cZ) (mW ad cB cI cZ) A post) z 77 [(0, .ref (ad 0)), (3, .int x3), (4, .int x4), (5, .int x5), (6, .int x6)] []) (x3 x4 x6 y0 y1 : Int32) (z : Sg) (hp : pX5_start_b144 K49 K77 post x3 x4 x6 y0 y1 z) : WW p l e rmX5_start s m args below meth c 7 D A (mW ad cB cI cZ) (QI below args s D (tyL cB cI cZ) (mW ad cB cI cZ) A post) z 144 [(0, .ref (ad 0)), (3, .int x3), (4, .int x4), (6, .int x6)] [.int y0, .int y1] := by
  unfold pX5_start_b144 at hp
  refine ww_iadd X dX5_start_144 ?_
  refine ww_top (fun v1 hv1 => ?_)
  have hp := hp v1 hv1
  refine ww_istore X (lv' := [(5, .int v1), (0, .ref (ad 0)), (3, .int x3), (4, .int x4), (6, .int x6)]) dX5_start_145 (by decide) rfl ?_
  refine ww_iinc X (v := (x6 + 1)) (lv' := [(6, .int (x6 + 1)), (5, .int v1), (0, .ref (ad 0)), (3, .int x3), (4, .int x4)]) dX5_start_147 4 rfl rfl (by decide) rfl ?_
  refine ww_goto X (tgt := 77) dX5_start_150 (by decide) ?_
  exact ww_sub (lv' := [(0, .ref (ad 0)), (3, .int x3), (4, .int x4), (5, .int v1), (6, .int (x6 + 1))]) [2, 3, 4, 1, 0] rfl (hK77 x3 x4 v1 (x6 + 1) z hp)
set_option maxHeartbeats 4000000 in
set_option maxRecDepth 100000 in
theorem wX5_start_b143 {p : Program} {l : Launch} {e : Env} {s : State} {m : MethodId} {args : Array Value} {below : List Frame} {meth : Method} {c : Code} {D : va_G} {A : Nat → Prop} {ad : Nat → Nat} {cB cI cZ : ClassId} {post : Int32 → Sg → Prop} {K49 : Int32 → Int32 → Sg → Prop} {K77 : Int32 → Int32 → Int32 → Int32 → Sg → Prop} (X : Cx p s m args meth c cX5_start 7 (some .int) RX5 wsX5_start D (tyL cB cI cZ) A) (hK49 : ∀ (x3 x4 : Int32) (z : Sg), K49 x3 x4 z → WW p l e rmX5_start s m args below meth c 7 D A (mW ad cB cI cZ) (QI below args s D (tyL cB cI cZ) (mW ad cB cI cZ) A post) z 49 [(0, .ref (ad 0)), (3, .int x3), (4, .int x4)] []) (hK77 : ∀ (x3 x4 x5 x6 : Int32) (z : Sg), K77 x3 x4 x5 x6 z → WW p l e rmX5_start s m args below meth c 7 D A (mW ad cB cI cZ) (QI below args s D (tyL cB cI cZ) (mW ad cB cI cZ) A post) z 77 [(0, .ref (ad 0)), (3, .int x3), (4, .int x4), (5, .int x5), (6, .int x6)] []) (x3 x4 x6 y0 : Int32) (z : Sg) (hp : pX5_start_b143 K49 K77 post x3 x4 x6 y0 z) : WW p l e rmX5_start s m args below meth c 7 D A (mW ad cB cI cZ) (QI below args s D (tyL cB cI cZ) (mW ad cB cI cZ) A post) z 143 [(0, .ref (ad 0)), (3, .int x3), (4, .int x4), (6, .int x6)] [.int y0] := by
  unfold pX5_start_b143 at hp
  refine ww_iconst X (v := 0) dX5_start_143 (by decide) ?_
  exact wX5_start_b144 X hK49 hK77 x3 x4 x6 0 y0 z hp
set_option maxHeartbeats 4000000 in
set_option maxRecDepth 100000 in
theorem wX5_start_b139 {p : Program} {l : Launch} {e : Env} {s : State} {m : MethodId} {args : Array Value} {below : List Frame} {meth : Method} {c : Code} {D : va_G} {A : Nat → Prop} {ad : Nat → Nat} {cB cI cZ : ClassId} {post : Int32 → Sg → Prop} {K49 : Int32 → Int32 → Sg → Prop} {K77 : Int32 → Int32 → Int32 → Int32 → Sg → Prop} (X : Cx p s m args meth c cX5_start 7 (some .int) RX5 wsX5_start D (tyL cB cI cZ) A) (hK49 : ∀ (x3 x4 : Int32) (z : Sg), K49 x3 x4 z → WW p l e rmX5_start s m args below meth c 7 D A (mW ad cB cI cZ) (QI below args s D (tyL cB cI cZ) (mW ad cB cI cZ) A post) z 49 [(0, .ref (ad 0)), (3, .int x3), (4, .int x4)] []) (hK77 : ∀ (x3 x4 x5 x6 : Int32) (z : Sg), K77 x3 x4 x5 x6 z → WW p l e rmX5_start s m args below meth c 7 D A (mW ad cB cI cZ) (QI below args s D (tyL cB cI cZ) (mW ad cB cI cZ) A post) z 77 [(0, .ref (ad 0)), (3, .int x3), (4, .int x4), (5, .int x5), (6, .int x6)] []) (x3 x4 x6 y0 : Int32) (z : Sg) (hp : pX5_start_b139 K49 K77 post x3 x4 x6 y0 z) : WW p l e rmX5_start s m args below meth c 7 D A (mW ad cB cI cZ) (QI below args s D (tyL cB cI cZ) (mW ad cB cI cZ) A post) z 139 [(0, .ref (ad 0)), (3, .int x3), (4, .int x4), (6, .int x6)] [.int y0] := by
  unfold pX5_start_b139 at hp
  refine ww_iconst X (v := 1) dX5_start_139 (by decide) ?_
  refine ww_goto X (tgt := 144) dX5_start_140 (by decide) ?_
  exact wX5_start_b144 X hK49 hK77 x3 x4 x6 1 y0 z hp
set_option maxHeartbeats 4000000 in
set_option maxRecDepth 100000 in
theorem wX5_start_b77 {p : Program} {l : Launch} {e : Env} {s : State} {m : MethodId} {args : Array Value} {below : List Frame} {meth : Method} {c : Code} {D : va_G} {A : Nat → Prop} {ad : Nat → Nat} {cB cI cZ : ClassId} {post : Int32 → Sg → Prop} {K49 : Int32 → Int32 → Sg → Prop} {K77 : Int32 → Int32 → Int32 → Int32 → Sg → Prop} (X : Cx p s m args meth c cX5_start 7 (some .int) RX5 wsX5_start D (tyL cB cI cZ) A) (hK49 : ∀ (x3 x4 : Int32) (z : Sg), K49 x3 x4 z → WW p l e rmX5_start s m args below meth c 7 D A (mW ad cB cI cZ) (QI below args s D (tyL cB cI cZ) (mW ad cB cI cZ) A post) z 49 [(0, .ref (ad 0)), (3, .int x3), (4, .int x4)] []) (hK77 : ∀ (x3 x4 x5 x6 : Int32) (z : Sg), K77 x3 x4 x5 x6 z → WW p l e rmX5_start s m args below meth c 7 D A (mW ad cB cI cZ) (QI below args s D (tyL cB cI cZ) (mW ad cB cI cZ) A post) z 77 [(0, .ref (ad 0)), (3, .int x3), (4, .int x4), (5, .int x5), (6, .int x6)] []) (x3 x4 x5 x6 : Int32) (z : Sg) (hp : pX5_start_b77 K49 K77 post x3 x4 x5 x6 z) : WW p l e rmX5_start s m args below meth c 7 D A (mW ad cB cI cZ) (QI below args s D (tyL cB cI cZ) (mW ad cB cI cZ) A post) z 77 [(0, .ref (ad 0)), (3, .int x3), (4, .int x4), (5, .int x5), (6, .int x6)] [] := by
  unfold pX5_start_b77 at hp
  refine ww_iload X dX5_start_77 4 rfl ?_
  refine ww_aload_n X dX5_start_79 0 rfl ?_
  refine ww_get X in_X5_start_X5 0 mg_0 rfl 4 (by decide) (X.wd 1 rfl) (v := .int (z.1 1)) rfl dX5_start_80 ?_
  refine ww_icmp_ge X (tgt := 153) dX5_start_83 (by decide) (fun h1 => ?_) (fun h1 => ?_)
  · have hp := hp.1 h1
    refine ww_iload X dX5_start_153 3 rfl ?_
    refine ww_iload_n X dX5_start_155 1 rfl ?_
    refine ww_icmp_ne X (tgt := 162) dX5_start_156 (by decide) (fun h2 => ?_) (fun h2 => ?_)
    · have hp := hp.1 h2
      exact ww_sub (lv' := [(0, .ref (ad 0)), (3, .int x3), (4, .int x4)]) [0, 1, 2] rfl (wX5_start_b162 X hK49 x3 x4 z hp)
    · have hp := hp.2 h2
      refine ww_iload X dX5_start_159 2 rfl ?_
      exact ww_iret X hp dX5_start_161
  · have hp := hp.2 h1
    refine ww_iload X dX5_start_86 3 rfl ?_
    refine ww_aload_n X dX5_start_88 0 rfl ?_
    refine ww_get X in_X5_start_X5 0 mg_0 rfl 17 (by decide) (X.wd 2 rfl) (v := .ref (ad 11)) rfl dX5_start_89 ?_
    refine ww_iload X dX5_start_92 4 rfl ?_
    obtain ⟨h3, hp⟩ := hp
    refine ww_zald X 11 2 mg_11 rfl (v := (gA z 10 x6)) h3 rfl dX5_start_94 ?_
    refine ww_if_eq X (tgt := 143) dX5_start_95 (by decide) (fun h4 => ?_) (fun h4 => ?_)
    · have hp := hp.1 h4
      exact ww_sub (lv' := [(0, .ref (ad 0)), (3, .int x3), (4, .int x4), (6, .int x6)]) [0, 1, 2, 4] rfl (wX5_start_b143 X hK49 hK77 x3 x4 x6 x5 z hp)
    · have hp := hp.2 h4
      refine ww_aload_n X dX5_start_98 0 rfl ?_
      refine ww_get X in_X5_start_X5 0 mg_0 rfl 18 (by decide) (X.wd 3 rfl) (v := .ref (ad 12)) rfl dX5_start_99 ?_
      refine ww_iload X dX5_start_102 4 rfl ?_
      obtain ⟨h5, hp⟩ := hp
      refine ww_iald X 12 1 mg_12 rfl (v := (gA z 11 x6)) h5 rfl dX5_start_104 ?_
      refine ww_aload_n X dX5_start_105 0 rfl ?_
      refine ww_get X in_X5_start_X5 0 mg_0 rfl 18 (by decide) (X.wd 3 rfl) (v := .ref (ad 12)) rfl dX5_start_106 ?_
      refine ww_iload X dX5_start_109 2 rfl ?_
      obtain ⟨h6, hp⟩ := hp
      refine ww_iald X 12 1 mg_12 rfl (v := (gA z 11 x4)) h6 rfl dX5_start_111 ?_
      refine ww_icmp_lt X (tgt := 139) dX5_start_112 (by decide) (fun h7 => ?_) (fun h7 => ?_)
      · have hp := hp.1 h7
        exact ww_sub (lv' := [(0, .ref (ad 0)), (3, .int x3), (4, .int x4), (6, .int x6)]) [0, 1, 2, 4] rfl (wX5_start_b139 X hK49 hK77 x3 x4 x6 x5 z hp)
      · have hp := hp.2 h7
        refine ww_aload_n X dX5_start_115 0 rfl ?_
        refine ww_get X in_X5_start_X5 0 mg_0 rfl 18 (by decide) (X.wd 3 rfl) (v := .ref (ad 12)) rfl dX5_start_116 ?_
        refine ww_iload X dX5_start_119 4 rfl ?_
        obtain ⟨h8, hp⟩ := hp
        refine ww_iald X 12 1 mg_12 rfl (v := (gA z 11 x6)) h8 rfl dX5_start_121 ?_
        refine ww_aload_n X dX5_start_122 0 rfl ?_
        refine ww_get X in_X5_start_X5 0 mg_0 rfl 18 (by decide) (X.wd 3 rfl) (v := .ref (ad 12)) rfl dX5_start_123 ?_
        refine ww_iload X dX5_start_126 2 rfl ?_
        obtain ⟨h9, hp⟩ := hp
        refine ww_iald X 12 1 mg_12 rfl (v := (gA z 11 x4)) h9 rfl dX5_start_128 ?_
        refine ww_icmp_ne X (tgt := 143) dX5_start_129 (by decide) (fun h10 => ?_) (fun h10 => ?_)
        · have hp := hp.1 h10
          exact ww_sub (lv' := [(0, .ref (ad 0)), (3, .int x3), (4, .int x4), (6, .int x6)]) [0, 1, 2, 4] rfl (wX5_start_b143 X hK49 hK77 x3 x4 x6 x5 z hp)
        · have hp := hp.2 h10
          refine ww_iload X dX5_start_132 4 rfl ?_
          refine ww_iload X dX5_start_134 2 rfl ?_
          refine ww_icmp_le X (tgt := 143) dX5_start_136 (by decide) (fun h11 => ?_) (fun h11 => ?_)
          · have hp := hp.1 h11
            exact ww_sub (lv' := [(0, .ref (ad 0)), (3, .int x3), (4, .int x4), (6, .int x6)]) [0, 1, 2, 4] rfl (wX5_start_b143 X hK49 hK77 x3 x4 x6 x5 z hp)
          · have hp := hp.2 h11
            exact ww_sub (lv' := [(0, .ref (ad 0)), (3, .int x3), (4, .int x4), (6, .int x6)]) [0, 1, 2, 4] rfl (wX5_start_b139 X hK49 hK77 x3 x4 x6 x5 z hp)
set_option maxHeartbeats 4000000 in
set_option maxRecDepth 100000 in
theorem wX5_start_l77 {p : Program} {l : Launch} {e : Env} {s : State} {m : MethodId} {args : Array Value} {below : List Frame} {meth : Method} {c : Code} {D : va_G} {A : Nat → Prop} {ad : Nat → Nat} {cB cI cZ : ClassId} {post : Int32 → Sg → Prop} {K49 : Int32 → Int32 → Sg → Prop} (X : Cx p s m args meth c cX5_start 7 (some .int) RX5 wsX5_start D (tyL cB cI cZ) A) (hK49 : ∀ (x3 x4 : Int32) (z : Sg), K49 x3 x4 z → WW p l e rmX5_start s m args below meth c 7 D A (mW ad cB cI cZ) (QI below args s D (tyL cB cI cZ) (mW ad cB cI cZ) A post) z 49 [(0, .ref (ad 0)), (3, .int x3), (4, .int x4)] []) (x3 x4 x5 x6 : Int32) (z : Sg) (hp : pX5_start_l77 K49 post x3 x4 x5 x6 z) : WW p l e rmX5_start s m args below meth c 7 D A (mW ad cB cI cZ) (QI below args s D (tyL cB cI cZ) (mW ad cB cI cZ) A post) z 77 [(0, .ref (ad 0)), (3, .int x3), (4, .int x4), (5, .int x5), (6, .int x6)] [] := by
  have key := lp_walk (F := (fun (K : Int32 × Int32 × Int32 × Int32 → Sg → Prop) (a : Int32 × Int32 × Int32 × Int32) (z : Sg) => pX5_start_b77 K49 (fun (x3 x4 x5 x6 : Int32) z => K (x3, x4, x5, x6) z) post a.1 a.2.1 a.2.2.1 a.2.2.2 z)) (P := fun a z => WW p l e rmX5_start s m args below meth c 7 D A (mW ad cB cI cZ) (QI below args s D (tyL cB cI cZ) (mW ad cB cI cZ) A post) z 77 [(0, .ref (ad 0)), (3, .int a.1), (4, .int a.2.1), (5, .int a.2.2.1), (6, .int a.2.2.2)] []) (fun K hK a z hp => wX5_start_b77 X hK49 (fun x3 x4 x5 x6 z h => hK (x3, x4, x5, x6) z h) a.1 a.2.1 a.2.2.1 a.2.2.2 z hp)
  exact key (x3, x4, x5, x6) z hp
set_option maxHeartbeats 4000000 in
set_option maxRecDepth 100000 in
theorem wX5_start_b49 {p : Program} {l : Launch} {e : Env} {s : State} {m : MethodId} {args : Array Value} {below : List Frame} {meth : Method} {c : Code} {D : va_G} {A : Nat → Prop} {ad : Nat → Nat} {cB cI cZ : ClassId} {post : Int32 → Sg → Prop} {K49 : Int32 → Int32 → Sg → Prop} (X : Cx p s m args meth c cX5_start 7 (some .int) RX5 wsX5_start D (tyL cB cI cZ) A) (hK49 : ∀ (x3 x4 : Int32) (z : Sg), K49 x3 x4 z → WW p l e rmX5_start s m args below meth c 7 D A (mW ad cB cI cZ) (QI below args s D (tyL cB cI cZ) (mW ad cB cI cZ) A post) z 49 [(0, .ref (ad 0)), (3, .int x3), (4, .int x4)] []) (x3 x4 : Int32) (z : Sg) (hp : pX5_start_b49 K49 post x3 x4 z) : WW p l e rmX5_start s m args below meth c 7 D A (mW ad cB cI cZ) (QI below args s D (tyL cB cI cZ) (mW ad cB cI cZ) A post) z 49 [(0, .ref (ad 0)), (3, .int x3), (4, .int x4)] [] := by
  unfold pX5_start_b49 at hp
  refine ww_iload X dX5_start_49 2 rfl ?_
  refine ww_aload_n X dX5_start_51 0 rfl ?_
  refine ww_get X in_X5_start_X5 0 mg_0 rfl 4 (by decide) (X.wd 1 rfl) (v := .int (z.1 1)) rfl dX5_start_52 ?_
  refine ww_icmp_ge X (tgt := 168) dX5_start_55 (by decide) (fun h1 => ?_) (fun h1 => ?_)
  · have hp := hp.1 h1
    refine ww_sipush X (v := (-10000)) dX5_start_168 (by decide) ?_
    exact ww_iret X hp dX5_start_171
  · have hp := hp.2 h1
    refine ww_aload_n X dX5_start_58 0 rfl ?_
    refine ww_get X in_X5_start_X5 0 mg_0 rfl 17 (by decide) (X.wd 2 rfl) (v := .ref (ad 11)) rfl dX5_start_59 ?_
    refine ww_iload X dX5_start_62 2 rfl ?_
    obtain ⟨h2, hp⟩ := hp
    refine ww_zald X 11 2 mg_11 rfl (v := (gA z 10 x4)) h2 rfl dX5_start_64 ?_
    refine ww_if_ne X (tgt := 71) dX5_start_65 (by decide) (fun h3 => ?_) (fun h3 => ?_)
    · have hp := hp.1 h3
      refine ww_iconst X (v := 0) dX5_start_71 (by decide) ?_
      refine ww_istore X (lv' := [(5, .int 0), (0, .ref (ad 0)), (3, .int x3), (4, .int x4)]) dX5_start_72 (by decide) rfl ?_
      refine ww_iconst X (v := 0) dX5_start_74 (by decide) ?_
      refine ww_istore X (lv' := [(6, .int 0), (5, .int 0), (0, .ref (ad 0)), (3, .int x3), (4, .int x4)]) dX5_start_75 (by decide) rfl ?_
      exact ww_sub (lv' := [(0, .ref (ad 0)), (3, .int x3), (4, .int x4), (5, .int 0), (6, .int 0)]) [2, 3, 4, 1, 0] rfl (wX5_start_l77 X hK49 x3 x4 0 0 z hp)
    · have hp := hp.2 h3
      refine ww_goto X (tgt := 162) dX5_start_68 (by decide) ?_
      exact wX5_start_b162 X hK49 x3 x4 z hp
set_option maxHeartbeats 4000000 in
set_option maxRecDepth 100000 in
theorem wX5_start_l49 {p : Program} {l : Launch} {e : Env} {s : State} {m : MethodId} {args : Array Value} {below : List Frame} {meth : Method} {c : Code} {D : va_G} {A : Nat → Prop} {ad : Nat → Nat} {cB cI cZ : ClassId} {post : Int32 → Sg → Prop}  (X : Cx p s m args meth c cX5_start 7 (some .int) RX5 wsX5_start D (tyL cB cI cZ) A)  (x3 x4 : Int32) (z : Sg) (hp : pX5_start_l49  post x3 x4 z) : WW p l e rmX5_start s m args below meth c 7 D A (mW ad cB cI cZ) (QI below args s D (tyL cB cI cZ) (mW ad cB cI cZ) A post) z 49 [(0, .ref (ad 0)), (3, .int x3), (4, .int x4)] [] := by
  have key := lp_walk (F := (fun (K : Int32 × Int32 → Sg → Prop) (a : Int32 × Int32) (z : Sg) => pX5_start_b49 (fun (x3 x4 : Int32) z => K (x3, x4) z) post a.1 a.2 z)) (P := fun a z => WW p l e rmX5_start s m args below meth c 7 D A (mW ad cB cI cZ) (QI below args s D (tyL cB cI cZ) (mW ad cB cI cZ) A post) z 49 [(0, .ref (ad 0)), (3, .int a.1), (4, .int a.2)] []) (fun K hK a z hp => wX5_start_b49 X (fun x3 x4 z h => hK (x3, x4) z h) a.1 a.2 z hp)
  exact key (x3, x4) z hp
set_option maxHeartbeats 4000000 in
set_option maxRecDepth 100000 in
theorem wX5_start_b40 {p : Program} {l : Launch} {e : Env} {s : State} {m : MethodId} {args : Array Value} {below : List Frame} {meth : Method} {c : Code} {D : va_G} {A : Nat → Prop} {ad : Nat → Nat} {cB cI cZ : ClassId} {post : Int32 → Sg → Prop}  (X : Cx p s m args meth c cX5_start 7 (some .int) RX5 wsX5_start D (tyL cB cI cZ) A)  (y0 : Int32) (z : Sg) (hp : pX5_start_b40  post y0 z) : WW p l e rmX5_start s m args below meth c 7 D A (mW ad cB cI cZ) (QI below args s D (tyL cB cI cZ) (mW ad cB cI cZ) A post) z 40 [(0, .ref (ad 0))] [.int y0] := by
  unfold pX5_start_b40 at hp
  exact ww_iret X hp dX5_start_40
set_option maxHeartbeats 4000000 in
set_option maxRecDepth 100000 in
theorem wX5_start_b17 {p : Program} {l : Launch} {e : Env} {s : State} {m : MethodId} {args : Array Value} {below : List Frame} {meth : Method} {c : Code} {D : va_G} {A : Nat → Prop} {ad : Nat → Nat} {cB cI cZ : ClassId} {post : Int32 → Sg → Prop}  (X : Cx p s m args meth c cX5_start 7 (some .int) RX5 wsX5_start D (tyL cB cI cZ) A)  (z : Sg) (hp : pX5_start_b17  post  z) : WW p l e rmX5_start s m args below meth c 7 D A (mW ad cB cI cZ) (QI below args s D (tyL cB cI cZ) (mW ad cB cI cZ) A post) z 17 [(0, .ref (ad 0))] [] := by
  unfold pX5_start_b17 at hp
  refine ww_sipush X (v := (-10000)) dX5_start_17 (by decide) ?_
  exact ww_iret X hp dX5_start_20
set_option maxHeartbeats 4000000 in
set_option maxRecDepth 100000 in
theorem kX5_start (l : Launch) (D : va_G) (ad : Nat → Nat) (cB cI cZ : ClassId) (a1 a2 a3 : Int32) (z : Sg) (post : Int32 → Sg → Prop) (hp : pX5_start a1 a2 a3 z post) : Ci l D (tyL cB cI cZ) (mW ad cB cI cZ) yX5_start wsX5_start rmX5_start [.ref (ad 0), .int a1, .int a2, .int a3] z post := by
  refine Ci.of (cc := cX5_start) (maxL := 7) (ret := (some .int)) (by decide) rfl (Nat.le_of_ble_eq_true rfl) ?_
  intro p e s m args below meth c A X
  have X : Cx p s m args meth c cX5_start 7 (some .int) RX5 wsX5_start D (tyL cB cI cZ) A := X
  show WW p l e rmX5_start s m args below meth c 7 D A (mW ad cB cI cZ) (QI below args s D (tyL cB cI cZ) (mW ad cB cI cZ) A post) z 0 [(0, .ref (ad 0)), (1, .int a1), (2, .int a2), (3, .int a3)] []
  unfold pX5_start at hp
  refine ww_aload_n X dX5_start_0 0 rfl ?_
  refine ww_iload_n X dX5_start_1 1 rfl ?_
  refine ww_callV_i X (As := [.int a1]) (rest := []) (kX5_isKnowing l D ad cB cI cZ a1 z _ hp) (cwV 1 X.hts gX5_start_X5_isKnowing rfl rfl rfl hd_X5_isKnowing ⟨Nat.le_of_ble_eq_true rfl, Nat.le_of_ble_eq_true rfl⟩) 0 5 mg_0 rfl rfl rfl rfl (Nat.le_of_ble_eq_true rfl) dX5_start_2 (fun r2 u1 hp => ?_)
  refine ww_if_eq X (tgt := 17) dX5_start_5 (by decide) (fun h3 => ?_) (fun h3 => ?_)
  · have hp := hp.1 h3
    exact ww_sub (lv' := [(0, .ref (ad 0))]) [0] rfl (wX5_start_b17 X   u1 hp)
  · have hp := hp.2 h3
    refine ww_iload_n X dX5_start_8 2 rfl ?_
    refine ww_iconst X (v := 0) dX5_start_9 (by decide) ?_
    refine ww_iconst X (v := 1) dX5_start_10 (by decide) ?_
    refine ww_callS_i X (As := [.int a2, .int 0, .int 1]) (rest := []) (kX5_lies l D ad cB cI cZ a2 0 1 u1 _ hp) (va_cwS 3 X.hts gX5_start_X5_lies rfl rfl rfl hn_X5_lies ⟨Nat.le_of_ble_eq_true rfl, Nat.le_of_ble_eq_true rfl⟩) rfl rfl (Nat.le_of_ble_eq_true rfl) dX5_start_11 (fun r5 u4 hp => ?_)
    refine ww_if_ne X (tgt := 21) dX5_start_14 (by decide) (fun h6 => ?_) (fun h6 => ?_)
    · have hp := hp.1 h6
      refine ww_iload_n X dX5_start_21 2 rfl ?_
      refine ww_if_ne X (tgt := 41) dX5_start_22 (by decide) (fun h7 => ?_) (fun h7 => ?_)
      · have hp := hp.1 h7
        refine ww_aload_n X dX5_start_41 0 rfl ?_
        refine ww_iload_n X dX5_start_42 1 rfl ?_
        refine ww_callV_v X (As := [.int a1]) (rest := []) (kX5_works l D ad cB cI cZ a1 u4 _ hp) (cwV 1 X.hts gX5_start_X5_works rfl rfl rfl hd_X5_works ⟨Nat.le_of_ble_eq_true rfl, Nat.le_of_ble_eq_true rfl⟩) 0 5 mg_0 rfl rfl rfl rfl (Nat.le_of_ble_eq_true rfl) dX5_start_43 (fun u8 hp => ?_)
        refine ww_iconst X (v := 0) dX5_start_46 (by decide) ?_
        refine ww_istore X (lv' := [(4, .int 0), (0, .ref (ad 0)), (1, .int a1), (2, .int a2), (3, .int a3)]) dX5_start_47 (by decide) rfl ?_
        exact ww_sub (lv' := [(0, .ref (ad 0)), (3, .int a3), (4, .int 0)]) [1, 4, 0] rfl (wX5_start_l49 X  a3 0 u8 hp)
      · have hp := hp.2 h7
        refine ww_aload_n X dX5_start_25 0 rfl ?_
        refine ww_iload_n X dX5_start_26 3 rfl ?_
        refine ww_callV_i X (As := [.int a3]) (rest := []) (kX5_isJumper l D ad cB cI cZ a3 u4 _ hp) (cwV 1 X.hts gX5_start_X5_isJumper rfl rfl rfl hd_X5_isJumper ⟨Nat.le_of_ble_eq_true rfl, Nat.le_of_ble_eq_true rfl⟩) 0 5 mg_0 rfl rfl rfl rfl (Nat.le_of_ble_eq_true rfl) dX5_start_27 (fun r11 u10 hp => ?_)
        refine ww_if_eq X (tgt := 37) dX5_start_30 (by decide) (fun h12 => ?_) (fun h12 => ?_)
        · have hp := hp.1 h12
          refine ww_sipush X (v := (-10000)) dX5_start_37 (by decide) ?_
          exact ww_sub (lv' := [(0, .ref (ad 0))]) [0] rfl (wX5_start_b40 X  (-10000) u10 hp)
        · have hp := hp.2 h12
          refine ww_iload_n X dX5_start_33 3 rfl ?_
          refine ww_goto X (tgt := 40) dX5_start_34 (by decide) ?_
          exact ww_sub (lv' := [(0, .ref (ad 0))]) [0] rfl (wX5_start_b40 X  a3 u10 hp)
    · have hp := hp.2 h6
      exact ww_sub (lv' := [(0, .ref (ad 0))]) [0] rfl (wX5_start_b17 X   u4 hp)
set_option maxHeartbeats 4000000 in
set_option maxRecDepth 100000 in
theorem wX5_team_b203 {p : Program} {l : Launch} {e : Env} {s : State} {m : MethodId} {args : Array Value} {below : List Frame} {meth : Method} {c : Code} {D : va_G} {A : Nat → Prop} {ad : Nat → Nat} {cB cI cZ : ClassId} {post : Int32 → Sg → Prop}  (X : Cx p s m args meth c cX5_team 8 (some .int) RX5 wsX5_team D (tyL cB cI cZ) A)  (y0 : Int32) (z : Sg) (hp : pX5_team_b203  post y0 z) : WW p l e rmX5_team s m args below meth c 8 D A (mW ad cB cI cZ) (QI below args s D (tyL cB cI cZ) (mW ad cB cI cZ) A post) z 203 [(0, .ref (ad 0))] [.int y0] := by
  unfold pX5_team_b203 at hp
  exact ww_iret X hp dX5_team_203
set_option maxHeartbeats 4000000 in
set_option maxRecDepth 100000 in
theorem wX5_team_b185 {p : Program} {l : Launch} {e : Env} {s : State} {m : MethodId} {args : Array Value} {below : List Frame} {meth : Method} {c : Code} {D : va_G} {A : Nat → Prop} {ad : Nat → Nat} {cB cI cZ : ClassId} {post : Int32 → Sg → Prop} {K34 : Int32 → Int32 → Int32 → Int32 → Sg → Prop} (X : Cx p s m args meth c cX5_team 8 (some .int) RX5 wsX5_team D (tyL cB cI cZ) A) (hK34 : ∀ (x2 x3 x4 x5 : Int32) (z : Sg), K34 x2 x3 x4 x5 z → WW p l e rmX5_team s m args below meth c 8 D A (mW ad cB cI cZ) (QI below args s D (tyL cB cI cZ) (mW ad cB cI cZ) A post) z 34 [(0, .ref (ad 0)), (2, .int x2), (3, .int x3), (4, .int x4), (5, .int x5)] []) (x2 x3 x4 x5 : Int32) (z : Sg) (hp : pX5_team_b185 K34 post x2 x3 x4 x5 z) : WW p l e rmX5_team s m args below meth c 8 D A (mW ad cB cI cZ) (QI below args s D (tyL cB cI cZ) (mW ad cB cI cZ) A post) z 185 [(0, .ref (ad 0)), (2, .int x2), (3, .int x3), (4, .int x4), (5, .int x5)] [] := by
  unfold pX5_team_b185 at hp
  refine ww_iinc X (v := (x5 + 1)) (lv' := [(5, .int (x5 + 1)), (0, .ref (ad 0)), (2, .int x2), (3, .int x3), (4, .int x4)]) dX5_team_185 4 rfl rfl (by decide) rfl ?_
  refine ww_goto X (tgt := 34) dX5_team_188 (by decide) ?_
  exact ww_sub (lv' := [(0, .ref (ad 0)), (2, .int x2), (3, .int x3), (4, .int x4), (5, .int (x5 + 1))]) [1, 2, 3, 4, 0] rfl (hK34 x2 x3 x4 (x5 + 1) z hp)
set_option maxHeartbeats 4000000 in
set_option maxRecDepth 100000 in
theorem wX5_team_b182 {p : Program} {l : Launch} {e : Env} {s : State} {m : MethodId} {args : Array Value} {below : List Frame} {meth : Method} {c : Code} {D : va_G} {A : Nat → Prop} {ad : Nat → Nat} {cB cI cZ : ClassId} {post : Int32 → Sg → Prop} {K34 : Int32 → Int32 → Int32 → Int32 → Sg → Prop} (X : Cx p s m args meth c cX5_team 8 (some .int) RX5 wsX5_team D (tyL cB cI cZ) A) (hK34 : ∀ (x2 x3 x4 x5 : Int32) (z : Sg), K34 x2 x3 x4 x5 z → WW p l e rmX5_team s m args below meth c 8 D A (mW ad cB cI cZ) (QI below args s D (tyL cB cI cZ) (mW ad cB cI cZ) A post) z 34 [(0, .ref (ad 0)), (2, .int x2), (3, .int x3), (4, .int x4), (5, .int x5)] []) (x2 x3 x5 y0 y1 : Int32) (z : Sg) (hp : pX5_team_b182 K34 post x2 x3 x5 y0 y1 z) : WW p l e rmX5_team s m args below meth c 8 D A (mW ad cB cI cZ) (QI below args s D (tyL cB cI cZ) (mW ad cB cI cZ) A post) z 182 [(0, .ref (ad 0)), (2, .int x2), (3, .int x3), (5, .int x5)] [.int y0, .int y1] := by
  unfold pX5_team_b182 at hp
  refine ww_iadd X dX5_team_182 ?_
  refine ww_top (fun v1 hv1 => ?_)
  have hp := hp v1 hv1
  refine ww_istore X (lv' := [(4, .int v1), (0, .ref (ad 0)), (2, .int x2), (3, .int x3), (5, .int x5)]) dX5_team_183 (by decide) rfl ?_
  exact ww_sub (lv' := [(0, .ref (ad 0)), (2, .int x2), (3, .int x3), (4, .int v1), (5, .int x5)]) [1, 2, 3, 0, 4] rfl (wX5_team_b185 X hK34 x2 x3 v1 x5 z hp)
set_option maxHeartbeats 4000000 in
set_option maxRecDepth 100000 in
theorem wX5_team_b154 {p : Program} {l : Launch} {e : Env} {s : State} {m : MethodId} {args : Array Value} {below : List Frame} {meth : Method} {c : Code} {D : va_G} {A : Nat → Prop} {ad : Nat → Nat} {cB cI cZ : ClassId} {post : Int32 → Sg → Prop} {K34 : Int32 → Int32 → Int32 → Int32 → Sg → Prop} {K76 : Int32 → Int32 → Int32 → Int32 → Int32 → Int32 → Sg → Prop} (X : Cx p s m args meth c cX5_team 8 (some .int) RX5 wsX5_team D (tyL cB cI cZ) A) (hK34 : ∀ (x2 x3 x4 x5 : Int32) (z : Sg), K34 x2 x3 x4 x5 z → WW p l e rmX5_team s m args below meth c 8 D A (mW ad cB cI cZ) (QI below args s D (tyL cB cI cZ) (mW ad cB cI cZ) A post) z 34 [(0, .ref (ad 0)), (2, .int x2), (3, .int x3), (4, .int x4), (5, .int x5)] []) (hK76 : ∀ (x2 x3 x4 x5 x6 x7 : Int32) (z : Sg), K76 x2 x3 x4 x5 x6 x7 z → WW p l e rmX5_team s m args below meth c 8 D A (mW ad cB cI cZ) (QI below args s D (tyL cB cI cZ) (mW ad cB cI cZ) A post) z 76 [(0, .ref (ad 0)), (2, .int x2), (3, .int x3), (4, .int x4), (5, .int x5), (6, .int x6), (7, .int x7)] []) (x2 x3 x4 x5 x7 y0 y1 : Int32) (z : Sg) (hp : pX5_team_b154 K34 K76 post x2 x3 x4 x5 x7 y0 y1 z) : WW p l e rmX5_team s m args below meth c 8 D A (mW ad cB cI cZ) (QI below args s D (tyL cB cI cZ) (mW ad cB cI cZ) A post) z 154 [(0, .ref (ad 0)), (2, .int x2), (3, .int x3), (4, .int x4), (5, .int x5), (7, .int x7)] [.int y0, .int y1] := by
  unfold pX5_team_b154 at hp
  refine ww_iadd X dX5_team_154 ?_
  refine ww_top (fun v1 hv1 => ?_)
  have hp := hp v1 hv1
  refine ww_istore X (lv' := [(6, .int v1), (0, .ref (ad 0)), (2, .int x2), (3, .int x3), (4, .int x4), (5, .int x5), (7, .int x7)]) dX5_team_155 (by decide) rfl ?_
  refine ww_iinc X (v := (x7 + 1)) (lv' := [(7, .int (x7 + 1)), (6, .int v1), (0, .ref (ad 0)), (2, .int x2), (3, .int x3), (4, .int x4), (5, .int x5)]) dX5_team_157 6 rfl rfl (by decide) rfl ?_
  refine ww_goto X (tgt := 76) dX5_team_160 (by decide) ?_
  exact ww_sub (lv' := [(0, .ref (ad 0)), (2, .int x2), (3, .int x3), (4, .int x4), (5, .int x5), (6, .int v1), (7, .int (x7 + 1))]) [2, 3, 4, 5, 6, 1, 0] rfl (hK76 x2 x3 x4 x5 v1 (x7 + 1) z hp)
set_option maxHeartbeats 4000000 in
set_option maxRecDepth 100000 in
theorem wX5_team_b153 {p : Program} {l : Launch} {e : Env} {s : State} {m : MethodId} {args : Array Value} {below : List Frame} {meth : Method} {c : Code} {D : va_G} {A : Nat → Prop} {ad : Nat → Nat} {cB cI cZ : ClassId} {post : Int32 → Sg → Prop} {K34 : Int32 → Int32 → Int32 → Int32 → Sg → Prop} {K76 : Int32 → Int32 → Int32 → Int32 → Int32 → Int32 → Sg → Prop} (X : Cx p s m args meth c cX5_team 8 (some .int) RX5 wsX5_team D (tyL cB cI cZ) A) (hK34 : ∀ (x2 x3 x4 x5 : Int32) (z : Sg), K34 x2 x3 x4 x5 z → WW p l e rmX5_team s m args below meth c 8 D A (mW ad cB cI cZ) (QI below args s D (tyL cB cI cZ) (mW ad cB cI cZ) A post) z 34 [(0, .ref (ad 0)), (2, .int x2), (3, .int x3), (4, .int x4), (5, .int x5)] []) (hK76 : ∀ (x2 x3 x4 x5 x6 x7 : Int32) (z : Sg), K76 x2 x3 x4 x5 x6 x7 z → WW p l e rmX5_team s m args below meth c 8 D A (mW ad cB cI cZ) (QI below args s D (tyL cB cI cZ) (mW ad cB cI cZ) A post) z 76 [(0, .ref (ad 0)), (2, .int x2), (3, .int x3), (4, .int x4), (5, .int x5), (6, .int x6), (7, .int x7)] []) (x2 x3 x4 x5 x7 y0 : Int32) (z : Sg) (hp : pX5_team_b153 K34 K76 post x2 x3 x4 x5 x7 y0 z) : WW p l e rmX5_team s m args below meth c 8 D A (mW ad cB cI cZ) (QI below args s D (tyL cB cI cZ) (mW ad cB cI cZ) A post) z 153 [(0, .ref (ad 0)), (2, .int x2), (3, .int x3), (4, .int x4), (5, .int x5), (7, .int x7)] [.int y0] := by
  unfold pX5_team_b153 at hp
  refine ww_iconst X (v := 0) dX5_team_153 (by decide) ?_
  exact wX5_team_b154 X hK34 hK76 x2 x3 x4 x5 x7 0 y0 z hp
set_option maxHeartbeats 4000000 in
set_option maxRecDepth 100000 in
theorem wX5_team_b149 {p : Program} {l : Launch} {e : Env} {s : State} {m : MethodId} {args : Array Value} {below : List Frame} {meth : Method} {c : Code} {D : va_G} {A : Nat → Prop} {ad : Nat → Nat} {cB cI cZ : ClassId} {post : Int32 → Sg → Prop} {K34 : Int32 → Int32 → Int32 → Int32 → Sg → Prop} {K76 : Int32 → Int32 → Int32 → Int32 → Int32 → Int32 → Sg → Prop} (X : Cx p s m args meth c cX5_team 8 (some .int) RX5 wsX5_team D (tyL cB cI cZ) A) (hK34 : ∀ (x2 x3 x4 x5 : Int32) (z : Sg), K34 x2 x3 x4 x5 z → WW p l e rmX5_team s m args below meth c 8 D A (mW ad cB cI cZ) (QI below args s D (tyL cB cI cZ) (mW ad cB cI cZ) A post) z 34 [(0, .ref (ad 0)), (2, .int x2), (3, .int x3), (4, .int x4), (5, .int x5)] []) (hK76 : ∀ (x2 x3 x4 x5 x6 x7 : Int32) (z : Sg), K76 x2 x3 x4 x5 x6 x7 z → WW p l e rmX5_team s m args below meth c 8 D A (mW ad cB cI cZ) (QI below args s D (tyL cB cI cZ) (mW ad cB cI cZ) A post) z 76 [(0, .ref (ad 0)), (2, .int x2), (3, .int x3), (4, .int x4), (5, .int x5), (6, .int x6), (7, .int x7)] []) (x2 x3 x4 x5 x7 y0 : Int32) (z : Sg) (hp : pX5_team_b149 K34 K76 post x2 x3 x4 x5 x7 y0 z) : WW p l e rmX5_team s m args below meth c 8 D A (mW ad cB cI cZ) (QI below args s D (tyL cB cI cZ) (mW ad cB cI cZ) A post) z 149 [(0, .ref (ad 0)), (2, .int x2), (3, .int x3), (4, .int x4), (5, .int x5), (7, .int x7)] [.int y0] := by
  unfold pX5_team_b149 at hp
  refine ww_iconst X (v := 1) dX5_team_149 (by decide) ?_
  refine ww_goto X (tgt := 154) dX5_team_150 (by decide) ?_
  exact wX5_team_b154 X hK34 hK76 x2 x3 x4 x5 x7 1 y0 z hp
set_option maxHeartbeats 4000000 in
set_option maxRecDepth 100000 in
theorem wX5_team_b76 {p : Program} {l : Launch} {e : Env} {s : State} {m : MethodId} {args : Array Value} {below : List Frame} {meth : Method} {c : Code} {D : va_G} {A : Nat → Prop} {ad : Nat → Nat} {cB cI cZ : ClassId} {post : Int32 → Sg → Prop} {K34 : Int32 → Int32 → Int32 → Int32 → Sg → Prop} {K76 : Int32 → Int32 → Int32 → Int32 → Int32 → Int32 → Sg → Prop} (X : Cx p s m args meth c cX5_team 8 (some .int) RX5 wsX5_team D (tyL cB cI cZ) A) (hK34 : ∀ (x2 x3 x4 x5 : Int32) (z : Sg), K34 x2 x3 x4 x5 z → WW p l e rmX5_team s m args below meth c 8 D A (mW ad cB cI cZ) (QI below args s D (tyL cB cI cZ) (mW ad cB cI cZ) A post) z 34 [(0, .ref (ad 0)), (2, .int x2), (3, .int x3), (4, .int x4), (5, .int x5)] []) (hK76 : ∀ (x2 x3 x4 x5 x6 x7 : Int32) (z : Sg), K76 x2 x3 x4 x5 x6 x7 z → WW p l e rmX5_team s m args below meth c 8 D A (mW ad cB cI cZ) (QI below args s D (tyL cB cI cZ) (mW ad cB cI cZ) A post) z 76 [(0, .ref (ad 0)), (2, .int x2), (3, .int x3), (4, .int x4), (5, .int x5), (6, .int x6), (7, .int x7)] []) (x2 x3 x4 x5 x6 x7 : Int32) (z : Sg) (hp : pX5_team_b76 K34 K76 post x2 x3 x4 x5 x6 x7 z) : WW p l e rmX5_team s m args below meth c 8 D A (mW ad cB cI cZ) (QI below args s D (tyL cB cI cZ) (mW ad cB cI cZ) A post) z 76 [(0, .ref (ad 0)), (2, .int x2), (3, .int x3), (4, .int x4), (5, .int x5), (6, .int x6), (7, .int x7)] [] := by
  unfold pX5_team_b76 at hp
  refine ww_iload X dX5_team_76 6 rfl ?_
  refine ww_aload_n X dX5_team_78 0 rfl ?_
  refine ww_get X in_X5_team_X5 0 mg_0 rfl 4 (by decide) (X.wd 1 rfl) (v := .int (z.1 1)) rfl dX5_team_79 ?_
  refine ww_icmp_ge X (tgt := 163) dX5_team_82 (by decide) (fun h1 => ?_) (fun h1 => ?_)
  · have hp := hp.1 h1
    refine ww_iload X dX5_team_163 3 rfl ?_
    refine ww_iload X dX5_team_165 5 rfl ?_
    refine ww_iconst X (v := 4) dX5_team_167 (by decide) ?_
    refine ww_icmp_ge X (tgt := 181) dX5_team_168 (by decide) (fun h2 => ?_) (fun h2 => ?_)
    · have hp := hp.1 h2
      refine ww_iconst X (v := 0) dX5_team_181 (by decide) ?_
      exact ww_sub (lv' := [(0, .ref (ad 0)), (2, .int x2), (3, .int x3), (5, .int x5)]) [0, 1, 2, 4] rfl (wX5_team_b182 X hK34 x2 x3 x5 0 x4 z hp)
    · have hp := hp.2 h2
      refine ww_aload_n X dX5_team_171 0 rfl ?_
      refine ww_get X in_X5_team_X5 0 mg_0 rfl 19 (by decide) (X.wd 4 rfl) (v := .ref (ad 13)) rfl dX5_team_172 ?_
      refine ww_iload X dX5_team_175 4 rfl ?_
      obtain ⟨h3, hp⟩ := hp
      refine ww_iald X 13 1 mg_13 rfl (v := (gA z 12 x5)) h3 rfl dX5_team_177 ?_
      refine ww_goto X (tgt := 182) dX5_team_178 (by decide) ?_
      exact ww_sub (lv' := [(0, .ref (ad 0)), (2, .int x2), (3, .int x3), (5, .int x5)]) [0, 1, 2, 4] rfl (wX5_team_b182 X hK34 x2 x3 x5 (gA z 12 x5) x4 z hp)
  · have hp := hp.2 h1
    refine ww_iload X dX5_team_85 5 rfl ?_
    refine ww_aload_n X dX5_team_87 0 rfl ?_
    refine ww_get X in_X5_team_X5 0 mg_0 rfl 16 (by decide) (X.wd 2 rfl) (v := .ref (ad 10)) rfl dX5_team_88 ?_
    refine ww_iload X dX5_team_91 6 rfl ?_
    obtain ⟨h4, hp⟩ := hp
    refine ww_zald X 10 2 mg_10 rfl (v := (gA z 9 x7)) h4 rfl dX5_team_93 ?_
    refine ww_if_eq X (tgt := 153) dX5_team_94 (by decide) (fun h5 => ?_) (fun h5 => ?_)
    · have hp := hp.1 h5
      exact ww_sub (lv' := [(0, .ref (ad 0)), (2, .int x2), (3, .int x3), (4, .int x4), (5, .int x5), (7, .int x7)]) [0, 1, 2, 3, 4, 6] rfl (wX5_team_b153 X hK34 hK76 x2 x3 x4 x5 x7 x6 z hp)
    · have hp := hp.2 h5
      refine ww_aload_n X dX5_team_97 0 rfl ?_
      refine ww_get X in_X5_team_X5 0 mg_0 rfl 8 (by decide) (X.wd 3 rfl) (v := .ref (ad 4)) rfl dX5_team_98 ?_
      refine ww_iload X dX5_team_101 6 rfl ?_
      obtain ⟨h6, hp⟩ := hp
      refine ww_iald X 4 1 mg_4 rfl (v := (gA z 3 x7)) h6 rfl dX5_team_103 ?_
      refine ww_iload_n X dX5_team_104 1 rfl ?_
      refine ww_icmp_ne X (tgt := 153) dX5_team_105 (by decide) (fun h7 => ?_) (fun h7 => ?_)
      · have hp := hp.1 h7
        exact ww_sub (lv' := [(0, .ref (ad 0)), (2, .int x2), (3, .int x3), (4, .int x4), (5, .int x5), (7, .int x7)]) [0, 1, 2, 3, 4, 6] rfl (wX5_team_b153 X hK34 hK76 x2 x3 x4 x5 x7 x6 z hp)
      · have hp := hp.2 h7
        refine ww_aload_n X dX5_team_108 0 rfl ?_
        refine ww_get X in_X5_team_X5 0 mg_0 rfl 19 (by decide) (X.wd 4 rfl) (v := .ref (ad 13)) rfl dX5_team_109 ?_
        refine ww_iload X dX5_team_112 6 rfl ?_
        obtain ⟨h8, hp⟩ := hp
        refine ww_iald X 13 1 mg_13 rfl (v := (gA z 12 x7)) h8 rfl dX5_team_114 ?_
        refine ww_aload_n X dX5_team_115 0 rfl ?_
        refine ww_get X in_X5_team_X5 0 mg_0 rfl 19 (by decide) (X.wd 4 rfl) (v := .ref (ad 13)) rfl dX5_team_116 ?_
        refine ww_iload X dX5_team_119 4 rfl ?_
        obtain ⟨h9, hp⟩ := hp
        refine ww_iald X 13 1 mg_13 rfl (v := (gA z 12 x5)) h9 rfl dX5_team_121 ?_
        refine ww_icmp_gt X (tgt := 149) dX5_team_122 (by decide) (fun h10 => ?_) (fun h10 => ?_)
        · have hp := hp.1 h10
          exact ww_sub (lv' := [(0, .ref (ad 0)), (2, .int x2), (3, .int x3), (4, .int x4), (5, .int x5), (7, .int x7)]) [0, 1, 2, 3, 4, 6] rfl (wX5_team_b149 X hK34 hK76 x2 x3 x4 x5 x7 x6 z hp)
        · have hp := hp.2 h10
          refine ww_aload_n X dX5_team_125 0 rfl ?_
          refine ww_get X in_X5_team_X5 0 mg_0 rfl 19 (by decide) (X.wd 4 rfl) (v := .ref (ad 13)) rfl dX5_team_126 ?_
          refine ww_iload X dX5_team_129 6 rfl ?_
          obtain ⟨h11, hp⟩ := hp
          refine ww_iald X 13 1 mg_13 rfl (v := (gA z 12 x7)) h11 rfl dX5_team_131 ?_
          refine ww_aload_n X dX5_team_132 0 rfl ?_
          refine ww_get X in_X5_team_X5 0 mg_0 rfl 19 (by decide) (X.wd 4 rfl) (v := .ref (ad 13)) rfl dX5_team_133 ?_
          refine ww_iload X dX5_team_136 4 rfl ?_
          obtain ⟨h12, hp⟩ := hp
          refine ww_iald X 13 1 mg_13 rfl (v := (gA z 12 x5)) h12 rfl dX5_team_138 ?_
          refine ww_icmp_ne X (tgt := 153) dX5_team_139 (by decide) (fun h13 => ?_) (fun h13 => ?_)
          · have hp := hp.1 h13
            exact ww_sub (lv' := [(0, .ref (ad 0)), (2, .int x2), (3, .int x3), (4, .int x4), (5, .int x5), (7, .int x7)]) [0, 1, 2, 3, 4, 6] rfl (wX5_team_b153 X hK34 hK76 x2 x3 x4 x5 x7 x6 z hp)
          · have hp := hp.2 h13
            refine ww_iload X dX5_team_142 6 rfl ?_
            refine ww_iload X dX5_team_144 4 rfl ?_
            refine ww_icmp_ge X (tgt := 153) dX5_team_146 (by decide) (fun h14 => ?_) (fun h14 => ?_)
            · have hp := hp.1 h14
              exact ww_sub (lv' := [(0, .ref (ad 0)), (2, .int x2), (3, .int x3), (4, .int x4), (5, .int x5), (7, .int x7)]) [0, 1, 2, 3, 4, 6] rfl (wX5_team_b153 X hK34 hK76 x2 x3 x4 x5 x7 x6 z hp)
            · have hp := hp.2 h14
              exact ww_sub (lv' := [(0, .ref (ad 0)), (2, .int x2), (3, .int x3), (4, .int x4), (5, .int x5), (7, .int x7)]) [0, 1, 2, 3, 4, 6] rfl (wX5_team_b149 X hK34 hK76 x2 x3 x4 x5 x7 x6 z hp)
set_option maxHeartbeats 4000000 in
set_option maxRecDepth 100000 in
theorem wX5_team_l76 {p : Program} {l : Launch} {e : Env} {s : State} {m : MethodId} {args : Array Value} {below : List Frame} {meth : Method} {c : Code} {D : va_G} {A : Nat → Prop} {ad : Nat → Nat} {cB cI cZ : ClassId} {post : Int32 → Sg → Prop} {K34 : Int32 → Int32 → Int32 → Int32 → Sg → Prop} (X : Cx p s m args meth c cX5_team 8 (some .int) RX5 wsX5_team D (tyL cB cI cZ) A) (hK34 : ∀ (x2 x3 x4 x5 : Int32) (z : Sg), K34 x2 x3 x4 x5 z → WW p l e rmX5_team s m args below meth c 8 D A (mW ad cB cI cZ) (QI below args s D (tyL cB cI cZ) (mW ad cB cI cZ) A post) z 34 [(0, .ref (ad 0)), (2, .int x2), (3, .int x3), (4, .int x4), (5, .int x5)] []) (x2 x3 x4 x5 x6 x7 : Int32) (z : Sg) (hp : pX5_team_l76 K34 post x2 x3 x4 x5 x6 x7 z) : WW p l e rmX5_team s m args below meth c 8 D A (mW ad cB cI cZ) (QI below args s D (tyL cB cI cZ) (mW ad cB cI cZ) A post) z 76 [(0, .ref (ad 0)), (2, .int x2), (3, .int x3), (4, .int x4), (5, .int x5), (6, .int x6), (7, .int x7)] [] := by
  have key := lp_walk (F := (fun (K : Int32 × Int32 × Int32 × Int32 × Int32 × Int32 → Sg → Prop) (a : Int32 × Int32 × Int32 × Int32 × Int32 × Int32) (z : Sg) => pX5_team_b76 K34 (fun (x2 x3 x4 x5 x6 x7 : Int32) z => K (x2, x3, x4, x5, x6, x7) z) post a.1 a.2.1 a.2.2.1 a.2.2.2.1 a.2.2.2.2.1 a.2.2.2.2.2 z)) (P := fun a z => WW p l e rmX5_team s m args below meth c 8 D A (mW ad cB cI cZ) (QI below args s D (tyL cB cI cZ) (mW ad cB cI cZ) A post) z 76 [(0, .ref (ad 0)), (2, .int a.1), (3, .int a.2.1), (4, .int a.2.2.1), (5, .int a.2.2.2.1), (6, .int a.2.2.2.2.1), (7, .int a.2.2.2.2.2)] []) (fun K hK a z hp => wX5_team_b76 X hK34 (fun x2 x3 x4 x5 x6 x7 z h => hK (x2, x3, x4, x5, x6, x7) z h) a.1 a.2.1 a.2.2.1 a.2.2.2.1 a.2.2.2.2.1 a.2.2.2.2.2 z hp)
  exact key (x2, x3, x4, x5, x6, x7) z hp
set_option maxHeartbeats 4000000 in
set_option maxRecDepth 100000 in
theorem wX5_team_b34 {p : Program} {l : Launch} {e : Env} {s : State} {m : MethodId} {args : Array Value} {below : List Frame} {meth : Method} {c : Code} {D : va_G} {A : Nat → Prop} {ad : Nat → Nat} {cB cI cZ : ClassId} {post : Int32 → Sg → Prop} {K34 : Int32 → Int32 → Int32 → Int32 → Sg → Prop} (X : Cx p s m args meth c cX5_team 8 (some .int) RX5 wsX5_team D (tyL cB cI cZ) A) (hK34 : ∀ (x2 x3 x4 x5 : Int32) (z : Sg), K34 x2 x3 x4 x5 z → WW p l e rmX5_team s m args below meth c 8 D A (mW ad cB cI cZ) (QI below args s D (tyL cB cI cZ) (mW ad cB cI cZ) A post) z 34 [(0, .ref (ad 0)), (2, .int x2), (3, .int x3), (4, .int x4), (5, .int x5)] []) (x2 x3 x4 x5 : Int32) (z : Sg) (hp : pX5_team_b34 K34 post x2 x3 x4 x5 z) : WW p l e rmX5_team s m args below meth c 8 D A (mW ad cB cI cZ) (QI below args s D (tyL cB cI cZ) (mW ad cB cI cZ) A post) z 34 [(0, .ref (ad 0)), (2, .int x2), (3, .int x3), (4, .int x4), (5, .int x5)] [] := by
  unfold pX5_team_b34 at hp
  refine ww_iload X dX5_team_34 4 rfl ?_
  refine ww_aload_n X dX5_team_36 0 rfl ?_
  refine ww_get X in_X5_team_X5 0 mg_0 rfl 4 (by decide) (X.wd 1 rfl) (v := .int (z.1 1)) rfl dX5_team_37 ?_
  refine ww_icmp_ge X (tgt := 191) dX5_team_40 (by decide) (fun h1 => ?_) (fun h1 => ?_)
  · have hp := hp.1 h1
    refine ww_iload_n X dX5_team_191 2 rfl ?_
    refine ww_if_ne X (tgt := 201) dX5_team_192 (by decide) (fun h2 => ?_) (fun h2 => ?_)
    · have hp := hp.1 h2
      refine ww_iload X dX5_team_201 3 rfl ?_
      exact ww_sub (lv' := [(0, .ref (ad 0))]) [0] rfl (wX5_team_b203 X  x4 z hp)
    · have hp := hp.2 h2
      refine ww_sipush X (v := (-10000)) dX5_team_195 (by decide) ?_
      refine ww_goto X (tgt := 203) dX5_team_198 (by decide) ?_
      exact ww_sub (lv' := [(0, .ref (ad 0))]) [0] rfl (wX5_team_b203 X  (-10000) z hp)
  · have hp := hp.2 h1
    refine ww_aload_n X dX5_team_43 0 rfl ?_
    refine ww_get X in_X5_team_X5 0 mg_0 rfl 16 (by decide) (X.wd 2 rfl) (v := .ref (ad 10)) rfl dX5_team_44 ?_
    refine ww_iload X dX5_team_47 4 rfl ?_
    obtain ⟨h3, hp⟩ := hp
    refine ww_zald X 10 2 mg_10 rfl (v := (gA z 9 x5)) h3 rfl dX5_team_49 ?_
    refine ww_if_eq X (tgt := 185) dX5_team_50 (by decide) (fun h4 => ?_) (fun h4 => ?_)
    · have hp := hp.1 h4
      exact wX5_team_b185 X hK34 x2 x3 x4 x5 z hp
    · have hp := hp.2 h4
      refine ww_aload_n X dX5_team_53 0 rfl ?_
      refine ww_get X in_X5_team_X5 0 mg_0 rfl 8 (by decide) (X.wd 3 rfl) (v := .ref (ad 4)) rfl dX5_team_54 ?_
      refine ww_iload X dX5_team_57 4 rfl ?_
      obtain ⟨h5, hp⟩ := hp
      refine ww_iald X 4 1 mg_4 rfl (v := (gA z 3 x5)) h5 rfl dX5_team_59 ?_
      refine ww_iload_n X dX5_team_60 1 rfl ?_
      refine ww_icmp_eq X (tgt := 67) dX5_team_61 (by decide) (fun h6 => ?_) (fun h6 => ?_)
      · have hp := hp.1 h6
        refine ww_iinc X (v := (x3 + 1)) (lv' := [(3, .int (x3 + 1)), (0, .ref (ad 0)), (2, .int x2), (4, .int x4), (5, .int x5)]) dX5_team_67 2 rfl rfl (by decide) rfl ?_
        refine ww_iconst X (v := 0) dX5_team_70 (by decide) ?_
        refine ww_istore X (lv' := [(6, .int 0), (3, .int (x3 + 1)), (0, .ref (ad 0)), (2, .int x2), (4, .int x4), (5, .int x5)]) dX5_team_71 (by decide) rfl ?_
        refine ww_iconst X (v := 0) dX5_team_73 (by decide) ?_
        refine ww_istore X (lv' := [(7, .int 0), (6, .int 0), (3, .int (x3 + 1)), (0, .ref (ad 0)), (2, .int x2), (4, .int x4), (5, .int x5)]) dX5_team_74 (by decide) rfl ?_
        exact ww_sub (lv' := [(0, .ref (ad 0)), (2, .int x2), (3, .int (x3 + 1)), (4, .int x4), (5, .int x5), (6, .int 0), (7, .int 0)]) [3, 4, 2, 5, 6, 1, 0] rfl (wX5_team_l76 X hK34 x2 (x3 + 1) x4 x5 0 0 z hp)
      · have hp := hp.2 h6
        refine ww_goto X (tgt := 185) dX5_team_64 (by decide) ?_
        exact wX5_team_b185 X hK34 x2 x3 x4 x5 z hp
set_option maxHeartbeats 4000000 in
set_option maxRecDepth 100000 in
theorem wX5_team_l34 {p : Program} {l : Launch} {e : Env} {s : State} {m : MethodId} {args : Array Value} {below : List Frame} {meth : Method} {c : Code} {D : va_G} {A : Nat → Prop} {ad : Nat → Nat} {cB cI cZ : ClassId} {post : Int32 → Sg → Prop}  (X : Cx p s m args meth c cX5_team 8 (some .int) RX5 wsX5_team D (tyL cB cI cZ) A)  (x2 x3 x4 x5 : Int32) (z : Sg) (hp : pX5_team_l34  post x2 x3 x4 x5 z) : WW p l e rmX5_team s m args below meth c 8 D A (mW ad cB cI cZ) (QI below args s D (tyL cB cI cZ) (mW ad cB cI cZ) A post) z 34 [(0, .ref (ad 0)), (2, .int x2), (3, .int x3), (4, .int x4), (5, .int x5)] [] := by
  have key := lp_walk (F := (fun (K : Int32 × Int32 × Int32 × Int32 → Sg → Prop) (a : Int32 × Int32 × Int32 × Int32) (z : Sg) => pX5_team_b34 (fun (x2 x3 x4 x5 : Int32) z => K (x2, x3, x4, x5) z) post a.1 a.2.1 a.2.2.1 a.2.2.2 z)) (P := fun a z => WW p l e rmX5_team s m args below meth c 8 D A (mW ad cB cI cZ) (QI below args s D (tyL cB cI cZ) (mW ad cB cI cZ) A post) z 34 [(0, .ref (ad 0)), (2, .int a.1), (3, .int a.2.1), (4, .int a.2.2.1), (5, .int a.2.2.2)] []) (fun K hK a z hp => wX5_team_b34 X (fun x2 x3 x4 x5 z h => hK (x2, x3, x4, x5) z h) a.1 a.2.1 a.2.2.1 a.2.2.2 z hp)
  exact key (x2, x3, x4, x5) z hp
set_option maxHeartbeats 4000000 in
set_option maxRecDepth 100000 in
theorem wX5_team_b17 {p : Program} {l : Launch} {e : Env} {s : State} {m : MethodId} {args : Array Value} {below : List Frame} {meth : Method} {c : Code} {D : va_G} {A : Nat → Prop} {ad : Nat → Nat} {cB cI cZ : ClassId} {post : Int32 → Sg → Prop}  (X : Cx p s m args meth c cX5_team 8 (some .int) RX5 wsX5_team D (tyL cB cI cZ) A)  (z : Sg) (hp : pX5_team_b17  post  z) : WW p l e rmX5_team s m args below meth c 8 D A (mW ad cB cI cZ) (QI below args s D (tyL cB cI cZ) (mW ad cB cI cZ) A post) z 17 [(0, .ref (ad 0))] [] := by
  unfold pX5_team_b17 at hp
  refine ww_sipush X (v := (-10000)) dX5_team_17 (by decide) ?_
  exact ww_iret X hp dX5_team_20
set_option maxHeartbeats 4000000 in
set_option maxRecDepth 100000 in
theorem kX5_team (l : Launch) (D : va_G) (ad : Nat → Nat) (cB cI cZ : ClassId) (a1 a2 : Int32) (z : Sg) (post : Int32 → Sg → Prop) (hp : pX5_team a1 a2 z post) : Ci l D (tyL cB cI cZ) (mW ad cB cI cZ) yX5_team wsX5_team rmX5_team [.ref (ad 0), .int a1, .int a2] z post := by
  refine Ci.of (cc := cX5_team) (maxL := 8) (ret := (some .int)) (by decide) rfl (Nat.le_of_ble_eq_true rfl) ?_
  intro p e s m args below meth c A X
  have X : Cx p s m args meth c cX5_team 8 (some .int) RX5 wsX5_team D (tyL cB cI cZ) A := X
  show WW p l e rmX5_team s m args below meth c 8 D A (mW ad cB cI cZ) (QI below args s D (tyL cB cI cZ) (mW ad cB cI cZ) A post) z 0 [(0, .ref (ad 0)), (1, .int a1), (2, .int a2)] []
  unfold pX5_team at hp
  refine ww_aload_n X dX5_team_0 0 rfl ?_
  refine ww_iload_n X dX5_team_1 1 rfl ?_
  refine ww_callV_i X (As := [.int a1]) (rest := []) (kX5_isKnowing l D ad cB cI cZ a1 z _ hp) (cwV 1 X.hts gX5_team_X5_isKnowing rfl rfl rfl hd_X5_isKnowing ⟨Nat.le_of_ble_eq_true rfl, Nat.le_of_ble_eq_true rfl⟩) 0 5 mg_0 rfl rfl rfl rfl (Nat.le_of_ble_eq_true rfl) dX5_team_2 (fun r2 u1 hp => ?_)
  refine ww_if_eq X (tgt := 17) dX5_team_5 (by decide) (fun h3 => ?_) (fun h3 => ?_)
  · have hp := hp.1 h3
    exact ww_sub (lv' := [(0, .ref (ad 0))]) [0] rfl (wX5_team_b17 X   u1 hp)
  · have hp := hp.2 h3
    refine ww_iload_n X dX5_team_8 2 rfl ?_
    refine ww_iconst X (v := 0) dX5_team_9 (by decide) ?_
    refine ww_iconst X (v := 5) dX5_team_10 (by decide) ?_
    refine ww_callS_i X (As := [.int a2, .int 0, .int 5]) (rest := []) (kX5_lies l D ad cB cI cZ a2 0 5 u1 _ hp) (va_cwS 3 X.hts gX5_team_X5_lies rfl rfl rfl hn_X5_lies ⟨Nat.le_of_ble_eq_true rfl, Nat.le_of_ble_eq_true rfl⟩) rfl rfl (Nat.le_of_ble_eq_true rfl) dX5_team_11 (fun r5 u4 hp => ?_)
    refine ww_if_ne X (tgt := 21) dX5_team_14 (by decide) (fun h6 => ?_) (fun h6 => ?_)
    · have hp := hp.1 h6
      refine ww_aload_n X dX5_team_21 0 rfl ?_
      refine ww_iload_n X dX5_team_22 1 rfl ?_
      refine ww_callV_v X (As := [.int a1]) (rest := []) (kX5_works l D ad cB cI cZ a1 u4 _ hp) (cwV 1 X.hts gX5_team_X5_works rfl rfl rfl hd_X5_works ⟨Nat.le_of_ble_eq_true rfl, Nat.le_of_ble_eq_true rfl⟩) 0 5 mg_0 rfl rfl rfl rfl (Nat.le_of_ble_eq_true rfl) dX5_team_23 (fun u7 hp => ?_)
      refine ww_iconst X (v := 0) dX5_team_26 (by decide) ?_
      refine ww_istore_n X (lv' := [(3, .int 0), (0, .ref (ad 0)), (1, .int a1), (2, .int a2)]) dX5_team_27 (by decide) rfl ?_
      refine ww_iconst X (v := 0) dX5_team_28 (by decide) ?_
      refine ww_istore X (lv' := [(4, .int 0), (3, .int 0), (0, .ref (ad 0)), (1, .int a1), (2, .int a2)]) dX5_team_29 (by decide) rfl ?_
      refine ww_iconst X (v := 0) dX5_team_31 (by decide) ?_
      refine ww_istore X (lv' := [(5, .int 0), (4, .int 0), (3, .int 0), (0, .ref (ad 0)), (1, .int a1), (2, .int a2)]) dX5_team_32 (by decide) rfl ?_
      exact ww_sub (lv' := [(0, .ref (ad 0)), (2, .int a2), (3, .int 0), (4, .int 0), (5, .int 0)]) [3, 5, 2, 1, 0] rfl (wX5_team_l34 X  a2 0 0 0 u7 hp)
    · have hp := hp.2 h6
      exact ww_sub (lv' := [(0, .ref (ad 0))]) [0] rfl (wX5_team_b17 X   u4 hp)
set_option maxHeartbeats 4000000 in
set_option maxRecDepth 100000 in
theorem wX5_isClean_b19 {p : Program} {l : Launch} {e : Env} {s : State} {m : MethodId} {args : Array Value} {below : List Frame} {meth : Method} {c : Code} {D : va_G} {A : Nat → Prop} {ad : Nat → Nat} {cB cI cZ : ClassId} {post : Int32 → Sg → Prop} {K19 : Int32 → Int32 → Sg → Prop} (X : Cx p s m args meth c cX5_isClean 4 (some .boolean) RX5 wsX5_isClean D (tyL cB cI cZ) A) (hK19 : ∀ (x2 x3 : Int32) (z : Sg), K19 x2 x3 z → WW p l e rmX5_isClean s m args below meth c 4 D A (mW ad cB cI cZ) (QI below args s D (tyL cB cI cZ) (mW ad cB cI cZ) A post) z 19 [(0, .ref (ad 0)), (2, .int x2), (3, .int x3)] []) (x2 x3 : Int32) (z : Sg) (hp : pX5_isClean_b19 K19 post x2 x3 z) : WW p l e rmX5_isClean s m args below meth c 4 D A (mW ad cB cI cZ) (QI below args s D (tyL cB cI cZ) (mW ad cB cI cZ) A post) z 19 [(0, .ref (ad 0)), (2, .int x2), (3, .int x3)] [] := by
  unfold pX5_isClean_b19 at hp
  refine ww_iload_n X dX5_isClean_19 2 rfl ?_
  refine ww_iconst X (v := 5) dX5_isClean_20 (by decide) ?_
  refine ww_icmp_ge X (tgt := 47) dX5_isClean_21 (by decide) (fun h1 => ?_) (fun h1 => ?_)
  · have hp := hp.1 h1
    refine ww_iconst X (v := 1) dX5_isClean_47 (by decide) ?_
    exact ww_zret X (Or.inr rfl) hp dX5_isClean_48
  · have hp := hp.2 h1
    refine ww_aload_n X dX5_isClean_24 0 rfl ?_
    refine ww_get X in_X5_isClean_X5 0 mg_0 rfl 13 (by decide) (X.wd 2 rfl) (v := .ref (ad 9)) rfl dX5_isClean_25 ?_
    refine ww_iconst X (v := 5) dX5_isClean_28 (by decide) ?_
    refine ww_iload_n X dX5_isClean_29 1 rfl ?_
    refine ww_imul X dX5_isClean_30 ?_
    refine ww_iload_n X dX5_isClean_31 2 rfl ?_
    refine ww_iadd X dX5_isClean_32 ?_
    obtain ⟨h2, hp⟩ := hp
    refine ww_iald X 9 1 mg_9 rfl (v := (gA z 8 ((5 * x2) + x3))) h2 rfl dX5_isClean_33 ?_
    refine ww_bipush X (v := 20) dX5_isClean_34 (by decide) ?_
    refine ww_icmp_ge X (tgt := 41) dX5_isClean_36 (by decide) (fun h3 => ?_) (fun h3 => ?_)
    · have hp := hp.1 h3
      refine ww_iinc X (v := (x3 + 1)) (lv' := [(3, .int (x3 + 1)), (0, .ref (ad 0)), (2, .int x2)]) dX5_isClean_41 2 rfl rfl (by decide) rfl ?_
      refine ww_goto X (tgt := 19) dX5_isClean_44 (by decide) ?_
      exact ww_sub (lv' := [(0, .ref (ad 0)), (2, .int x2), (3, .int (x3 + 1))]) [1, 2, 0] rfl (hK19 x2 (x3 + 1) z hp)
    · have hp := hp.2 h3
      refine ww_iconst X (v := 0) dX5_isClean_39 (by decide) ?_
      exact ww_zret X (Or.inl rfl) hp dX5_isClean_40
set_option maxHeartbeats 4000000 in
set_option maxRecDepth 100000 in
theorem wX5_isClean_l19 {p : Program} {l : Launch} {e : Env} {s : State} {m : MethodId} {args : Array Value} {below : List Frame} {meth : Method} {c : Code} {D : va_G} {A : Nat → Prop} {ad : Nat → Nat} {cB cI cZ : ClassId} {post : Int32 → Sg → Prop}  (X : Cx p s m args meth c cX5_isClean 4 (some .boolean) RX5 wsX5_isClean D (tyL cB cI cZ) A)  (x2 x3 : Int32) (z : Sg) (hp : pX5_isClean_l19  post x2 x3 z) : WW p l e rmX5_isClean s m args below meth c 4 D A (mW ad cB cI cZ) (QI below args s D (tyL cB cI cZ) (mW ad cB cI cZ) A post) z 19 [(0, .ref (ad 0)), (2, .int x2), (3, .int x3)] [] := by
  have key := lp_walk (F := (fun (K : Int32 × Int32 → Sg → Prop) (a : Int32 × Int32) (z : Sg) => pX5_isClean_b19 (fun (x2 x3 : Int32) z => K (x2, x3) z) post a.1 a.2 z)) (P := fun a z => WW p l e rmX5_isClean s m args below meth c 4 D A (mW ad cB cI cZ) (QI below args s D (tyL cB cI cZ) (mW ad cB cI cZ) A post) z 19 [(0, .ref (ad 0)), (2, .int a.1), (3, .int a.2)] []) (fun K hK a z hp => wX5_isClean_b19 X (fun x2 x3 z h => hK (x2, x3) z h) a.1 a.2 z hp)
  exact key (x2, x3) z hp
set_option maxHeartbeats 4000000 in
set_option maxRecDepth 100000 in
theorem kX5_isClean (l : Launch) (D : va_G) (ad : Nat → Nat) (cB cI cZ : ClassId) (a1 : Int32) (z : Sg) (post : Int32 → Sg → Prop) (hp : pX5_isClean a1 z post) : Ci l D (tyL cB cI cZ) (mW ad cB cI cZ) yX5_isClean wsX5_isClean rmX5_isClean [.ref (ad 0), .int a1] z post := by
  refine Ci.of (cc := cX5_isClean) (maxL := 4) (ret := (some .boolean)) (by decide) rfl (Nat.le_of_ble_eq_true rfl) ?_
  intro p e s m args below meth c A X
  have X : Cx p s m args meth c cX5_isClean 4 (some .boolean) RX5 wsX5_isClean D (tyL cB cI cZ) A := X
  show WW p l e rmX5_isClean s m args below meth c 4 D A (mW ad cB cI cZ) (QI below args s D (tyL cB cI cZ) (mW ad cB cI cZ) A post) z 0 [(0, .ref (ad 0)), (1, .int a1)] []
  unfold pX5_isClean at hp
  refine ww_aload_n X dX5_isClean_0 0 rfl ?_
  refine ww_aload_n X dX5_isClean_1 0 rfl ?_
  refine ww_get X in_X5_isClean_X5 0 mg_0 rfl 5 (by decide) (X.wd 1 rfl) (v := .int (z.1 2)) rfl dX5_isClean_2 ?_
  refine ww_iconst X (v := 2) dX5_isClean_5 (by decide) ?_
  refine ww_iload_n X dX5_isClean_6 1 rfl ?_
  refine ww_callV_i X (As := [.int (z.1 2), .int 2, .int a1]) (rest := []) (kX5_lastOf l D ad cB cI cZ (z.1 2) 2 a1 z _ hp) (cwV 3 X.hts gX5_isClean_X5_lastOf rfl rfl rfl hd_X5_lastOf ⟨Nat.le_of_ble_eq_true rfl, Nat.le_of_ble_eq_true rfl⟩) 0 5 mg_0 rfl rfl rfl rfl (Nat.le_of_ble_eq_true rfl) dX5_isClean_7 (fun r2 u1 hp => ?_)
  refine ww_istore_n X (lv' := [(2, .int r2), (0, .ref (ad 0)), (1, .int a1)]) dX5_isClean_10 (by decide) rfl ?_
  refine ww_iload_n X dX5_isClean_11 0 rfl ?_
  refine ww_if_ge X (tgt := 17) dX5_isClean_12 (by decide) (fun h3 => ?_) (fun h3 => ?_)
  · have hp := hp.1 h3
    refine ww_iconst X (v := 0) dX5_isClean_17 (by decide) ?_
    refine ww_istore_n X (lv' := [(3, .int 0), (2, .int r2), (0, .ref (ad 0)), (1, .int a1)]) dX5_isClean_18 (by decide) rfl ?_
    exact ww_sub (lv' := [(0, .ref (ad 0)), (2, .int r2), (3, .int 0)]) [2, 1, 0] rfl (wX5_isClean_l19 X  r2 0 u1 hp)
  · have hp := hp.2 h3
    refine ww_iconst X (v := 0) dX5_isClean_15 (by decide) ?_
    exact ww_zret X (Or.inl rfl) hp dX5_isClean_16
set_option maxHeartbeats 4000000 in
set_option maxRecDepth 100000 in
theorem wX5_longest_b92 {p : Program} {l : Launch} {e : Env} {s : State} {m : MethodId} {args : Array Value} {below : List Frame} {meth : Method} {c : Code} {D : va_G} {A : Nat → Prop} {ad : Nat → Nat} {cB cI cZ : ClassId} {post : Int32 → Sg → Prop} {K6 : Int32 → Int32 → Sg → Prop} (X : Cx p s m args meth c cX5_longest 4 (some .int) RX5 wsX5_longest D (tyL cB cI cZ) A) (hK6 : ∀ (x1 x2 : Int32) (z : Sg), K6 x1 x2 z → WW p l e rmX5_longest s m args below meth c 4 D A (mW ad cB cI cZ) (QI below args s D (tyL cB cI cZ) (mW ad cB cI cZ) A post) z 6 [(0, .ref (ad 0)), (1, .int x1), (2, .int x2)] []) (x1 x2 : Int32) (z : Sg) (hp : pX5_longest_b92 K6 post x1 x2 z) : WW p l e rmX5_longest s m args below meth c 4 D A (mW ad cB cI cZ) (QI below args s D (tyL cB cI cZ) (mW ad cB cI cZ) A post) z 92 [(0, .ref (ad 0)), (1, .int x1), (2, .int x2)] [] := by
  unfold pX5_longest_b92 at hp
  refine ww_iinc X (v := (x2 + 1)) (lv' := [(2, .int (x2 + 1)), (0, .ref (ad 0)), (1, .int x1)]) dX5_longest_92 2 rfl rfl (by decide) rfl ?_
  refine ww_goto X (tgt := 6) dX5_longest_95 (by decide) ?_
  exact ww_sub (lv' := [(0, .ref (ad 0)), (1, .int x1), (2, .int (x2 + 1))]) [1, 2, 0] rfl (hK6 x1 (x2 + 1) z hp)
set_option maxHeartbeats 4000000 in
set_option maxRecDepth 100000 in
theorem wX5_longest_b90 {p : Program} {l : Launch} {e : Env} {s : State} {m : MethodId} {args : Array Value} {below : List Frame} {meth : Method} {c : Code} {D : va_G} {A : Nat → Prop} {ad : Nat → Nat} {cB cI cZ : ClassId} {post : Int32 → Sg → Prop} {K6 : Int32 → Int32 → Sg → Prop} (X : Cx p s m args meth c cX5_longest 4 (some .int) RX5 wsX5_longest D (tyL cB cI cZ) A) (hK6 : ∀ (x1 x2 : Int32) (z : Sg), K6 x1 x2 z → WW p l e rmX5_longest s m args below meth c 4 D A (mW ad cB cI cZ) (QI below args s D (tyL cB cI cZ) (mW ad cB cI cZ) A post) z 6 [(0, .ref (ad 0)), (1, .int x1), (2, .int x2)] []) (x2 : Int32) (z : Sg) (hp : pX5_longest_b90 K6 post x2 z) : WW p l e rmX5_longest s m args below meth c 4 D A (mW ad cB cI cZ) (QI below args s D (tyL cB cI cZ) (mW ad cB cI cZ) A post) z 90 [(0, .ref (ad 0)), (2, .int x2)] [] := by
  unfold pX5_longest_b90 at hp
  refine ww_iload_n X dX5_longest_90 1 rfl ?_
  refine ww_istore_n X (lv' := [(1, .int x2), (0, .ref (ad 0)), (2, .int x2)]) dX5_longest_91 (by decide) rfl ?_
  exact ww_sub (lv' := [(0, .ref (ad 0)), (1, .int x2), (2, .int x2)]) [1, 0, 2] rfl (wX5_longest_b92 X hK6 x2 x2 z hp)
set_option maxHeartbeats 4000000 in
set_option maxRecDepth 100000 in
theorem wX5_longest_b6 {p : Program} {l : Launch} {e : Env} {s : State} {m : MethodId} {args : Array Value} {below : List Frame} {meth : Method} {c : Code} {D : va_G} {A : Nat → Prop} {ad : Nat → Nat} {cB cI cZ : ClassId} {post : Int32 → Sg → Prop} {K6 : Int32 → Int32 → Sg → Prop} (X : Cx p s m args meth c cX5_longest 4 (some .int) RX5 wsX5_longest D (tyL cB cI cZ) A) (hK6 : ∀ (x1 x2 : Int32) (z : Sg), K6 x1 x2 z → WW p l e rmX5_longest s m args below meth c 4 D A (mW ad cB cI cZ) (QI below args s D (tyL cB cI cZ) (mW ad cB cI cZ) A post) z 6 [(0, .ref (ad 0)), (1, .int x1), (2, .int x2)] []) (x1 x2 : Int32) (z : Sg) (hp : pX5_longest_b6 K6 post x1 x2 z) : WW p l e rmX5_longest s m args below meth c 4 D A (mW ad cB cI cZ) (QI below args s D (tyL cB cI cZ) (mW ad cB cI cZ) A post) z 6 [(0, .ref (ad 0)), (1, .int x1), (2, .int x2)] [] := by
  unfold pX5_longest_b6 at hp
  refine ww_iload_n X dX5_longest_6 2 rfl ?_
  refine ww_aload_n X dX5_longest_7 0 rfl ?_
  refine ww_get X in_X5_longest_X5 0 mg_0 rfl 5 (by decide) (X.wd 1 rfl) (v := .int (z.1 2)) rfl dX5_longest_8 ?_
  refine ww_icmp_ge X (tgt := 98) dX5_longest_11 (by decide) (fun h1 => ?_) (fun h1 => ?_)
  · have hp := hp.1 h1
    refine ww_iload_n X dX5_longest_98 1 rfl ?_
    exact ww_iret X hp dX5_longest_99
  · have hp := hp.2 h1
    refine ww_aload_n X dX5_longest_14 0 rfl ?_
    refine ww_get X in_X5_longest_X5 0 mg_0 rfl 12 (by decide) (X.wd 2 rfl) (v := .ref (ad 8)) rfl dX5_longest_15 ?_
    refine ww_iload_n X dX5_longest_18 2 rfl ?_
    obtain ⟨h2, hp⟩ := hp
    refine ww_iald X 8 1 mg_8 rfl (v := (gA z 7 x2)) h2 rfl dX5_longest_19 ?_
    refine ww_top (fun v3 hv3 => ?_)
    have hp := hp v3 hv3
    refine ww_istore_n X (lv' := [(3, .int v3), (0, .ref (ad 0)), (1, .int x1), (2, .int x2)]) dX5_longest_20 (by decide) rfl ?_
    refine ww_aload_n X dX5_longest_21 1 rfl ?_
    refine ww_get X in_X5_longest_X5 0 mg_0 rfl 11 (by decide) (X.wd 3 rfl) (v := .ref (ad 7)) rfl dX5_longest_22 ?_
    refine ww_iload_n X dX5_longest_25 3 rfl ?_
    obtain ⟨h4, hp⟩ := hp
    refine ww_iald X 7 1 mg_7 rfl (v := (gA z 6 x2)) h4 rfl dX5_longest_26 ?_
    refine ww_if_ne X (tgt := 92) dX5_longest_27 (by decide) (fun h5 => ?_) (fun h5 => ?_)
    · have hp := hp.1 h5
      exact ww_sub (lv' := [(0, .ref (ad 0)), (1, .int x1), (2, .int x2)]) [1, 2, 3] rfl (wX5_longest_b92 X hK6 x1 x2 z hp)
    · have hp := hp.2 h5
      refine ww_aload_n X dX5_longest_30 1 rfl ?_
      refine ww_aload_n X dX5_longest_31 1 rfl ?_
      refine ww_get X in_X5_longest_X5 0 mg_0 rfl 5 (by decide) (X.wd 1 rfl) (v := .int (z.1 2)) rfl dX5_longest_32 ?_
      refine ww_iconst X (v := 0) dX5_longest_35 (by decide) ?_
      refine ww_iload_n X dX5_longest_36 0 rfl ?_
      refine ww_callV_i X (As := [.int (z.1 2), .int 0, .int v3]) (rest := []) (kX5_lastOf l D ad cB cI cZ (z.1 2) 0 v3 z _ hp) (cwV 3 X.hts gX5_longest_X5_lastOf rfl rfl rfl hd_X5_lastOf ⟨Nat.le_of_ble_eq_true rfl, Nat.le_of_ble_eq_true rfl⟩) 0 5 mg_0 rfl rfl rfl rfl (Nat.le_of_ble_eq_true rfl) dX5_longest_37 (fun r7 u6 hp => ?_)
      refine ww_iload_n X dX5_longest_40 3 rfl ?_
      refine ww_icmp_ne X (tgt := 92) dX5_longest_41 (by decide) (fun h8 => ?_) (fun h8 => ?_)
      · have hp := hp.1 h8
        exact ww_sub (lv' := [(0, .ref (ad 0)), (1, .int x1), (2, .int x2)]) [1, 2, 3] rfl (wX5_longest_b92 X hK6 x1 x2 u6 hp)
      · have hp := hp.2 h8
        refine ww_aload_n X dX5_longest_44 1 rfl ?_
        refine ww_aload_n X dX5_longest_45 1 rfl ?_
        refine ww_get X in_X5_longest_X5 0 mg_0 rfl 5 (by decide) (X.wd 1 rfl) (v := .int (u6.1 2)) rfl dX5_longest_46 ?_
        refine ww_iload_n X dX5_longest_49 0 rfl ?_
        refine ww_callV_i X (As := [.int (u6.1 2), .int v3]) (rest := []) (kX5_has l D ad cB cI cZ (u6.1 2) v3 u6 _ hp) (cwV 2 X.hts gX5_longest_X5_has rfl rfl rfl hd_X5_has ⟨Nat.le_of_ble_eq_true rfl, Nat.le_of_ble_eq_true rfl⟩) 0 5 mg_0 rfl rfl rfl rfl (Nat.le_of_ble_eq_true rfl) dX5_longest_50 (fun r10 u9 hp => ?_)
        refine ww_if_eq X (tgt := 92) dX5_longest_53 (by decide) (fun h11 => ?_) (fun h11 => ?_)
        · have hp := hp.1 h11
          exact ww_sub (lv' := [(0, .ref (ad 0)), (1, .int x1), (2, .int x2)]) [1, 2, 3] rfl (wX5_longest_b92 X hK6 x1 x2 u9 hp)
        · have hp := hp.2 h11
          refine ww_aload_n X dX5_longest_56 1 rfl ?_
          refine ww_iload_n X dX5_longest_57 0 rfl ?_
          refine ww_callV_i X (As := [.int v3]) (rest := []) (kX5_isClean l D ad cB cI cZ v3 u9 _ hp) (cwV 1 X.hts gX5_longest_X5_isClean rfl rfl rfl hd_X5_isClean ⟨Nat.le_of_ble_eq_true rfl, Nat.le_of_ble_eq_true rfl⟩) 0 5 mg_0 rfl rfl rfl rfl (Nat.le_of_ble_eq_true rfl) dX5_longest_58 (fun r13 u12 hp => ?_)
          refine ww_if_ne X (tgt := 67) dX5_longest_61 (by decide) (fun h14 => ?_) (fun h14 => ?_)
          · have hp := hp.1 h14
            refine ww_iload_n X dX5_longest_67 2 rfl ?_
            refine ww_if_lt X (tgt := 90) dX5_longest_68 (by decide) (fun h15 => ?_) (fun h15 => ?_)
            · have hp := hp.1 h15
              exact ww_sub (lv' := [(0, .ref (ad 0)), (2, .int x2)]) [1, 3] rfl (wX5_longest_b90 X hK6 x2 u12 hp)
            · have hp := hp.2 h15
              refine ww_aload_n X dX5_longest_71 1 rfl ?_
              refine ww_get X in_X5_longest_X5 0 mg_0 rfl 13 (by decide) (X.wd 4 rfl) (v := .ref (ad 9)) rfl dX5_longest_72 ?_
              refine ww_iconst X (v := 5) dX5_longest_75 (by decide) ?_
              refine ww_iload_n X dX5_longest_76 3 rfl ?_
              refine ww_imul X dX5_longest_77 ?_
              obtain ⟨h16, hp⟩ := hp
              refine ww_iald X 9 1 mg_9 rfl (v := (gA u12 8 (5 * x2))) h16 rfl dX5_longest_78 ?_
              refine ww_aload_n X dX5_longest_79 1 rfl ?_
              refine ww_get X in_X5_longest_X5 0 mg_0 rfl 13 (by decide) (X.wd 4 rfl) (v := .ref (ad 9)) rfl dX5_longest_80 ?_
              refine ww_iconst X (v := 5) dX5_longest_83 (by decide) ?_
              refine ww_iload_n X dX5_longest_84 2 rfl ?_
              refine ww_imul X dX5_longest_85 ?_
              obtain ⟨h17, hp⟩ := hp
              refine ww_iald X 9 1 mg_9 rfl (v := (gA u12 8 (5 * x1))) h17 rfl dX5_longest_86 ?_
              refine ww_icmp_le X (tgt := 92) dX5_longest_87 (by decide) (fun h18 => ?_) (fun h18 => ?_)
              · have hp := hp.1 h18
                exact ww_sub (lv' := [(0, .ref (ad 0)), (1, .int x1), (2, .int x2)]) [1, 2, 3] rfl (wX5_longest_b92 X hK6 x1 x2 u12 hp)
              · have hp := hp.2 h18
                exact ww_sub (lv' := [(0, .ref (ad 0)), (2, .int x2)]) [1, 3] rfl (wX5_longest_b90 X hK6 x2 u12 hp)
          · have hp := hp.2 h14
            refine ww_goto X (tgt := 92) dX5_longest_64 (by decide) ?_
            exact ww_sub (lv' := [(0, .ref (ad 0)), (1, .int x1), (2, .int x2)]) [1, 2, 3] rfl (wX5_longest_b92 X hK6 x1 x2 u12 hp)
set_option maxHeartbeats 4000000 in
set_option maxRecDepth 100000 in
theorem wX5_longest_l6 {p : Program} {l : Launch} {e : Env} {s : State} {m : MethodId} {args : Array Value} {below : List Frame} {meth : Method} {c : Code} {D : va_G} {A : Nat → Prop} {ad : Nat → Nat} {cB cI cZ : ClassId} {post : Int32 → Sg → Prop}  (X : Cx p s m args meth c cX5_longest 4 (some .int) RX5 wsX5_longest D (tyL cB cI cZ) A)  (x1 x2 : Int32) (z : Sg) (hp : pX5_longest_l6  post x1 x2 z) : WW p l e rmX5_longest s m args below meth c 4 D A (mW ad cB cI cZ) (QI below args s D (tyL cB cI cZ) (mW ad cB cI cZ) A post) z 6 [(0, .ref (ad 0)), (1, .int x1), (2, .int x2)] [] := by
  have key := lp_walk (F := (fun (K : Int32 × Int32 → Sg → Prop) (a : Int32 × Int32) (z : Sg) => pX5_longest_b6 (fun (x1 x2 : Int32) z => K (x1, x2) z) post a.1 a.2 z)) (P := fun a z => WW p l e rmX5_longest s m args below meth c 4 D A (mW ad cB cI cZ) (QI below args s D (tyL cB cI cZ) (mW ad cB cI cZ) A post) z 6 [(0, .ref (ad 0)), (1, .int a.1), (2, .int a.2)] []) (fun K hK a z hp => wX5_longest_b6 X (fun x1 x2 z h => hK (x1, x2) z h) a.1 a.2 z hp)
  exact key (x1, x2) z hp
set_option maxHeartbeats 4000000 in
set_option maxRecDepth 100000 in
theorem kX5_longest (l : Launch) (D : va_G) (ad : Nat → Nat) (cB cI cZ : ClassId) (z : Sg) (post : Int32 → Sg → Prop) (hp : pX5_longest  z post) : Ci l D (tyL cB cI cZ) (mW ad cB cI cZ) yX5_longest wsX5_longest rmX5_longest [.ref (ad 0)] z post := by
  refine Ci.of (cc := cX5_longest) (maxL := 4) (ret := (some .int)) (by decide) rfl (Nat.le_of_ble_eq_true rfl) ?_
  intro p e s m args below meth c A X
  have X : Cx p s m args meth c cX5_longest 4 (some .int) RX5 wsX5_longest D (tyL cB cI cZ) A := X
  show WW p l e rmX5_longest s m args below meth c 4 D A (mW ad cB cI cZ) (QI below args s D (tyL cB cI cZ) (mW ad cB cI cZ) A post) z 0 [(0, .ref (ad 0))] []
  unfold pX5_longest at hp
  refine ww_sipush X (v := (-10000)) dX5_longest_0 (by decide) ?_
  refine ww_istore_n X (lv' := [(1, .int (-10000)), (0, .ref (ad 0))]) dX5_longest_3 (by decide) rfl ?_
  refine ww_iconst X (v := 0) dX5_longest_4 (by decide) ?_
  refine ww_istore_n X (lv' := [(2, .int 0), (1, .int (-10000)), (0, .ref (ad 0))]) dX5_longest_5 (by decide) rfl ?_
  exact ww_sub (lv' := [(0, .ref (ad 0)), (1, .int (-10000)), (2, .int 0)]) [2, 1, 0] rfl (wX5_longest_l6 X  (-10000) 0 z hp)
set_option maxHeartbeats 4000000 in
set_option maxRecDepth 100000 in
theorem wX5_isGreater_b34 {p : Program} {l : Launch} {e : Env} {s : State} {m : MethodId} {args : Array Value} {below : List Frame} {meth : Method} {c : Code} {D : va_G} {A : Nat → Prop} {ad : Nat → Nat} {cB cI cZ : ClassId} {post : Int32 → Sg → Prop}  (X : Cx p s m args meth c cX5_isGreater 2 (some .boolean) RX5 wsX5_isGreater D (tyL cB cI cZ) A)  (y0 : Int32) (z : Sg) (hp : pX5_isGreater_b34  post y0 z) : WW p l e rmX5_isGreater s m args below meth c 2 D A (mW ad cB cI cZ) (QI below args s D (tyL cB cI cZ) (mW ad cB cI cZ) A post) z 34 [(0, .ref (ad 0))] [.int y0] := by
  unfold pX5_isGreater_b34 at hp
  exact ww_zret X hp.1 hp.2 dX5_isGreater_34
set_option maxHeartbeats 4000000 in
set_option maxRecDepth 100000 in
theorem wX5_isGreater_b33 {p : Program} {l : Launch} {e : Env} {s : State} {m : MethodId} {args : Array Value} {below : List Frame} {meth : Method} {c : Code} {D : va_G} {A : Nat → Prop} {ad : Nat → Nat} {cB cI cZ : ClassId} {post : Int32 → Sg → Prop}  (X : Cx p s m args meth c cX5_isGreater 2 (some .boolean) RX5 wsX5_isGreater D (tyL cB cI cZ) A)  (z : Sg) (hp : pX5_isGreater_b33  post  z) : WW p l e rmX5_isGreater s m args below meth c 2 D A (mW ad cB cI cZ) (QI below args s D (tyL cB cI cZ) (mW ad cB cI cZ) A post) z 33 [(0, .ref (ad 0))] [] := by
  unfold pX5_isGreater_b33 at hp
  refine ww_iconst X (v := 0) dX5_isGreater_33 (by decide) ?_
  exact wX5_isGreater_b34 X  0 z hp
set_option maxHeartbeats 4000000 in
set_option maxRecDepth 100000 in
theorem wX5_isGreater_b29 {p : Program} {l : Launch} {e : Env} {s : State} {m : MethodId} {args : Array Value} {below : List Frame} {meth : Method} {c : Code} {D : va_G} {A : Nat → Prop} {ad : Nat → Nat} {cB cI cZ : ClassId} {post : Int32 → Sg → Prop}  (X : Cx p s m args meth c cX5_isGreater 2 (some .boolean) RX5 wsX5_isGreater D (tyL cB cI cZ) A)  (z : Sg) (hp : pX5_isGreater_b29  post  z) : WW p l e rmX5_isGreater s m args below meth c 2 D A (mW ad cB cI cZ) (QI below args s D (tyL cB cI cZ) (mW ad cB cI cZ) A post) z 29 [(0, .ref (ad 0))] [] := by
  unfold pX5_isGreater_b29 at hp
  refine ww_iconst X (v := 1) dX5_isGreater_29 (by decide) ?_
  refine ww_goto X (tgt := 34) dX5_isGreater_30 (by decide) ?_
  exact wX5_isGreater_b34 X  1 z hp
set_option maxHeartbeats 4000000 in
set_option maxRecDepth 100000 in
theorem kX5_isGreater (l : Launch) (D : va_G) (ad : Nat → Nat) (cB cI cZ : ClassId) (a1 : Int32) (z : Sg) (post : Int32 → Sg → Prop) (hp : pX5_isGreater a1 z post) : Ci l D (tyL cB cI cZ) (mW ad cB cI cZ) yX5_isGreater wsX5_isGreater rmX5_isGreater [.ref (ad 0), .int a1] z post := by
  refine Ci.of (cc := cX5_isGreater) (maxL := 2) (ret := (some .boolean)) (by decide) rfl (Nat.le_of_ble_eq_true rfl) ?_
  intro p e s m args below meth c A X
  have X : Cx p s m args meth c cX5_isGreater 2 (some .boolean) RX5 wsX5_isGreater D (tyL cB cI cZ) A := X
  show WW p l e rmX5_isGreater s m args below meth c 2 D A (mW ad cB cI cZ) (QI below args s D (tyL cB cI cZ) (mW ad cB cI cZ) A post) z 0 [(0, .ref (ad 0)), (1, .int a1)] []
  unfold pX5_isGreater at hp
  refine ww_iload_n X dX5_isGreater_0 1 rfl ?_
  refine ww_if_lt X (tgt := 33) dX5_isGreater_1 (by decide) (fun h1 => ?_) (fun h1 => ?_)
  · have hp := hp.1 h1
    exact ww_sub (lv' := [(0, .ref (ad 0))]) [0] rfl (wX5_isGreater_b33 X   z hp)
  · have hp := hp.2 h1
    refine ww_aload_n X dX5_isGreater_4 0 rfl ?_
    refine ww_get X in_X5_isGreater_X5 0 mg_0 rfl 14 (by decide) (X.wd 1 rfl) (v := .int (z.1 5)) rfl dX5_isGreater_5 ?_
    refine ww_sipush X (v := (-10000)) dX5_isGreater_8 (by decide) ?_
    refine ww_icmp_eq X (tgt := 29) dX5_isGreater_11 (by decide) (fun h2 => ?_) (fun h2 => ?_)
    · have hp := hp.1 h2
      exact ww_sub (lv' := [(0, .ref (ad 0))]) [0] rfl (wX5_isGreater_b29 X   z hp)
    · have hp := hp.2 h2
      refine ww_aload_n X dX5_isGreater_14 0 rfl ?_
      refine ww_get X in_X5_isGreater_X5 0 mg_0 rfl 13 (by decide) (X.wd 2 rfl) (v := .ref (ad 9)) rfl dX5_isGreater_15 ?_
      refine ww_iconst X (v := 5) dX5_isGreater_18 (by decide) ?_
      refine ww_iload_n X dX5_isGreater_19 1 rfl ?_
      refine ww_imul X dX5_isGreater_20 ?_
      obtain ⟨h3, hp⟩ := hp
      refine ww_iald X 9 1 mg_9 rfl (v := (gA z 8 (5 * a1))) h3 rfl dX5_isGreater_21 ?_
      refine ww_aload_n X dX5_isGreater_22 0 rfl ?_
      refine ww_get X in_X5_isGreater_X5 0 mg_0 rfl 14 (by decide) (X.wd 1 rfl) (v := .int (z.1 5)) rfl dX5_isGreater_23 ?_
      refine ww_icmp_le X (tgt := 33) dX5_isGreater_26 (by decide) (fun h4 => ?_) (fun h4 => ?_)
      · have hp := hp.1 h4
        exact ww_sub (lv' := [(0, .ref (ad 0))]) [0] rfl (wX5_isGreater_b33 X   z hp)
      · have hp := hp.2 h4
        exact ww_sub (lv' := [(0, .ref (ad 0))]) [0] rfl (wX5_isGreater_b29 X   z hp)
set_option maxHeartbeats 4000000 in
set_option maxRecDepth 100000 in
theorem wX5_record_b66 {p : Program} {l : Launch} {e : Env} {s : State} {m : MethodId} {args : Array Value} {below : List Frame} {meth : Method} {c : Code} {D : va_G} {A : Nat → Prop} {ad : Nat → Nat} {cB cI cZ : ClassId} {post : Int32 → Sg → Prop}  (X : Cx p s m args meth c cX5_record 3 (some .int) RX5 wsX5_record D (tyL cB cI cZ) A)  (y0 : Int32) (z : Sg) (hp : pX5_record_b66  post y0 z) : WW p l e rmX5_record s m args below meth c 3 D A (mW ad cB cI cZ) (QI below args s D (tyL cB cI cZ) (mW ad cB cI cZ) A post) z 66 [(0, .ref (ad 0))] [.int y0] := by
  unfold pX5_record_b66 at hp
  exact ww_iret X hp dX5_record_66
set_option maxHeartbeats 4000000 in
set_option maxRecDepth 100000 in
theorem wX5_record_b41 {p : Program} {l : Launch} {e : Env} {s : State} {m : MethodId} {args : Array Value} {below : List Frame} {meth : Method} {c : Code} {D : va_G} {A : Nat → Prop} {ad : Nat → Nat} {cB cI cZ : ClassId} {post : Int32 → Sg → Prop}  (X : Cx p s m args meth c cX5_record 3 (some .int) RX5 wsX5_record D (tyL cB cI cZ) A)  (y0 : Int32) (z : Sg) (hp : pX5_record_b41  post y0 z) : WW p l e rmX5_record s m args below meth c 3 D A (mW ad cB cI cZ) (QI below args s D (tyL cB cI cZ) (mW ad cB cI cZ) A post) z 41 [(0, .ref (ad 0))] [.int y0] := by
  unfold pX5_record_b41 at hp
  exact ww_iret X hp dX5_record_41
set_option maxHeartbeats 4000000 in
set_option maxRecDepth 100000 in
theorem kX5_record (l : Launch) (D : va_G) (ad : Nat → Nat) (cB cI cZ : ClassId) (a1 : Int32) (z : Sg) (post : Int32 → Sg → Prop) (hp : pX5_record a1 z post) : Ci l D (tyL cB cI cZ) (mW ad cB cI cZ) yX5_record wsX5_record rmX5_record [.ref (ad 0), .int a1] z post := by
  refine Ci.of (cc := cX5_record) (maxL := 3) (ret := (some .int)) (by decide) rfl (Nat.le_of_ble_eq_true rfl) ?_
  intro p e s m args below meth c A X
  have X : Cx p s m args meth c cX5_record 3 (some .int) RX5 wsX5_record D (tyL cB cI cZ) A := X
  show WW p l e rmX5_record s m args below meth c 3 D A (mW ad cB cI cZ) (QI below args s D (tyL cB cI cZ) (mW ad cB cI cZ) A post) z 0 [(0, .ref (ad 0)), (1, .int a1)] []
  unfold pX5_record at hp
  refine ww_iload_n X dX5_record_0 1 rfl ?_
  refine ww_iconst X (v := 0) dX5_record_1 (by decide) ?_
  refine ww_iconst X (v := 1) dX5_record_2 (by decide) ?_
  refine ww_callS_i X (As := [.int a1, .int 0, .int 1]) (rest := []) (kX5_lies l D ad cB cI cZ a1 0 1 z _ hp) (va_cwS 3 X.hts gX5_record_X5_lies rfl rfl rfl hn_X5_lies ⟨Nat.le_of_ble_eq_true rfl, Nat.le_of_ble_eq_true rfl⟩) rfl rfl (Nat.le_of_ble_eq_true rfl) dX5_record_3 (fun r2 u1 hp => ?_)
  refine ww_if_ne X (tgt := 13) dX5_record_6 (by decide) (fun h3 => ?_) (fun h3 => ?_)
  · have hp := hp.1 h3
    refine ww_aload_n X dX5_record_13 0 rfl ?_
    refine ww_callV_i X (As := []) (rest := []) (kX5_longest l D ad cB cI cZ  u1 _ hp) (cwV 0 X.hts gX5_record_X5_longest rfl rfl rfl hd_X5_longest ⟨Nat.le_of_ble_eq_true rfl, Nat.le_of_ble_eq_true rfl⟩) 0 5 mg_0 rfl rfl rfl rfl (Nat.le_of_ble_eq_true rfl) dX5_record_14 (fun r5 u4 hp => ?_)
    refine ww_istore_n X (lv' := [(2, .int r5), (0, .ref (ad 0)), (1, .int a1)]) dX5_record_17 (by decide) rfl ?_
    refine ww_aload_n X dX5_record_18 1 rfl ?_
    refine ww_iload_n X dX5_record_19 0 rfl ?_
    refine ww_callV_i X (As := [.int r5]) (rest := []) (kX5_isGreater l D ad cB cI cZ r5 u4 _ hp) (cwV 1 X.hts gX5_record_X5_isGreater rfl rfl rfl hd_X5_isGreater ⟨Nat.le_of_ble_eq_true rfl, Nat.le_of_ble_eq_true rfl⟩) 0 5 mg_0 rfl rfl rfl rfl (Nat.le_of_ble_eq_true rfl) dX5_record_20 (fun r7 u6 hp => ?_)
    refine ww_if_ne X (tgt := 42) dX5_record_23 (by decide) (fun h8 => ?_) (fun h8 => ?_)
    · have hp := hp.1 h8
      refine ww_iload_n X dX5_record_42 2 rfl ?_
      refine ww_if_ne X (tgt := 57) dX5_record_43 (by decide) (fun h9 => ?_) (fun h9 => ?_)
      · have hp := hp.1 h9
        refine ww_aload_n X dX5_record_57 1 rfl ?_
        refine ww_get X in_X5_record_X5 0 mg_0 rfl 12 (by decide) (X.wd 4 rfl) (v := .ref (ad 8)) rfl dX5_record_58 ?_
        refine ww_iload_n X dX5_record_61 0 rfl ?_
        obtain ⟨h10, hp⟩ := hp
        refine ww_iald X 8 1 mg_8 rfl (v := (gA u6 7 r5)) h10 rfl dX5_record_62 ?_
        refine ww_bipush X (v := 32) dX5_record_63 (by decide) ?_
        refine ww_irem X dX5_record_65 (by decide) ?_
        exact ww_sub (lv' := [(0, .ref (ad 0))]) [1] rfl (wX5_record_b66 X  ((gA u6 7 r5) - (gA u6 7 r5) / 32 * 32) u6 hp)
      · have hp := hp.2 h9
        refine ww_aload_n X dX5_record_46 1 rfl ?_
        refine ww_get X in_X5_record_X5 0 mg_0 rfl 13 (by decide) (X.wd 3 rfl) (v := .ref (ad 9)) rfl dX5_record_47 ?_
        refine ww_iconst X (v := 5) dX5_record_50 (by decide) ?_
        refine ww_iload_n X dX5_record_51 0 rfl ?_
        refine ww_imul X dX5_record_52 ?_
        obtain ⟨h11, hp⟩ := hp
        refine ww_iald X 9 1 mg_9 rfl (v := (gA u6 8 (5 * r5))) h11 rfl dX5_record_53 ?_
        refine ww_goto X (tgt := 66) dX5_record_54 (by decide) ?_
        exact ww_sub (lv' := [(0, .ref (ad 0))]) [1] rfl (wX5_record_b66 X  (gA u6 8 (5 * r5)) u6 hp)
    · have hp := hp.2 h8
      refine ww_iload_n X dX5_record_26 2 rfl ?_
      refine ww_if_ne X (tgt := 37) dX5_record_27 (by decide) (fun h12 => ?_) (fun h12 => ?_)
      · have hp := hp.1 h12
        refine ww_aload_n X dX5_record_37 1 rfl ?_
        refine ww_get X in_X5_record_X5 0 mg_0 rfl 15 (by decide) (X.wd 2 rfl) (v := .int (u6.1 6)) rfl dX5_record_38 ?_
        exact ww_sub (lv' := [(0, .ref (ad 0))]) [1] rfl (wX5_record_b41 X  (u6.1 6) u6 hp)
      · have hp := hp.2 h12
        refine ww_aload_n X dX5_record_30 1 rfl ?_
        refine ww_get X in_X5_record_X5 0 mg_0 rfl 14 (by decide) (X.wd 1 rfl) (v := .int (u6.1 5)) rfl dX5_record_31 ?_
        refine ww_goto X (tgt := 41) dX5_record_34 (by decide) ?_
        exact ww_sub (lv' := [(0, .ref (ad 0))]) [1] rfl (wX5_record_b41 X  (u6.1 5) u6 hp)
  · have hp := hp.2 h3
    refine ww_sipush X (v := (-10000)) dX5_record_9 (by decide) ?_
    exact ww_iret X hp dX5_record_12
set_option maxHeartbeats 4000000 in
set_option maxRecDepth 100000 in
theorem wX5_differ_b139 {p : Program} {l : Launch} {e : Env} {s : State} {m : MethodId} {args : Array Value} {below : List Frame} {meth : Method} {c : Code} {D : va_G} {A : Nat → Prop} {ad : Nat → Nat} {cB cI cZ : ClassId} {post : Int32 → Sg → Prop} {K85 : Int32 → Int32 → Int32 → Sg → Prop} (X : Cx p s m args meth c cX5_differ 6 (some .int) RX5 wsX5_differ D (tyL cB cI cZ) A) (hK85 : ∀ (x3 x4 x5 : Int32) (z : Sg), K85 x3 x4 x5 z → WW p l e rmX5_differ s m args below meth c 6 D A (mW ad cB cI cZ) (QI below args s D (tyL cB cI cZ) (mW ad cB cI cZ) A post) z 85 [(0, .ref (ad 0)), (3, .int x3), (4, .int x4), (5, .int x5)] []) (x3 x4 x5 : Int32) (z : Sg) (hp : pX5_differ_b139 K85 post x3 x4 x5 z) : WW p l e rmX5_differ s m args below meth c 6 D A (mW ad cB cI cZ) (QI below args s D (tyL cB cI cZ) (mW ad cB cI cZ) A post) z 139 [(0, .ref (ad 0)), (3, .int x3), (4, .int x4), (5, .int x5)] [] := by
  unfold pX5_differ_b139 at hp
  refine ww_iinc X (v := (x5 + 1)) (lv' := [(5, .int (x5 + 1)), (0, .ref (ad 0)), (3, .int x3), (4, .int x4)]) dX5_differ_139 3 rfl rfl (by decide) rfl ?_
  refine ww_goto X (tgt := 85) dX5_differ_142 (by decide) ?_
  exact ww_sub (lv' := [(0, .ref (ad 0)), (3, .int x3), (4, .int x4), (5, .int (x5 + 1))]) [1, 2, 3, 0] rfl (hK85 x3 x4 (x5 + 1) z hp)
set_option maxHeartbeats 4000000 in
set_option maxRecDepth 100000 in
theorem wX5_differ_b121 {p : Program} {l : Launch} {e : Env} {s : State} {m : MethodId} {args : Array Value} {below : List Frame} {meth : Method} {c : Code} {D : va_G} {A : Nat → Prop} {ad : Nat → Nat} {cB cI cZ : ClassId} {post : Int32 → Sg → Prop} {K85 : Int32 → Int32 → Int32 → Sg → Prop} (X : Cx p s m args meth c cX5_differ 6 (some .int) RX5 wsX5_differ D (tyL cB cI cZ) A) (hK85 : ∀ (x3 x4 x5 : Int32) (z : Sg), K85 x3 x4 x5 z → WW p l e rmX5_differ s m args below meth c 6 D A (mW ad cB cI cZ) (QI below args s D (tyL cB cI cZ) (mW ad cB cI cZ) A post) z 85 [(0, .ref (ad 0)), (3, .int x3), (4, .int x4), (5, .int x5)] []) (x3 x4 x5 y0 y1 : Int32) (z : Sg) (hp : pX5_differ_b121 K85 post x3 x4 x5 y0 y1 z) : WW p l e rmX5_differ s m args below meth c 6 D A (mW ad cB cI cZ) (QI below args s D (tyL cB cI cZ) (mW ad cB cI cZ) A post) z 121 [(0, .ref (ad 0)), (3, .int x3), (4, .int x4), (5, .int x5)] [.int y0, .int y1] := by
  unfold pX5_differ_b121 at hp
  refine ww_icmp_ne X (tgt := 127) dX5_differ_121 (by decide) (fun h1 => ?_) (fun h1 => ?_)
  · have hp := hp.1 h1
    refine ww_iload X dX5_differ_127 2 rfl ?_
    refine ww_iload_n X dX5_differ_129 1 rfl ?_
    refine ww_icmp_ne X (tgt := 136) dX5_differ_130 (by decide) (fun h2 => ?_) (fun h2 => ?_)
    · have hp := hp.1 h2
      refine ww_iinc X (v := (x4 + 1)) (lv' := [(4, .int (x4 + 1)), (0, .ref (ad 0)), (3, .int x3), (5, .int x5)]) dX5_differ_136 2 rfl rfl (by decide) rfl ?_
      exact ww_sub (lv' := [(0, .ref (ad 0)), (3, .int x3), (4, .int (x4 + 1)), (5, .int x5)]) [1, 2, 0, 3] rfl (wX5_differ_b139 X hK85 x3 (x4 + 1) x5 z hp)
    · have hp := hp.2 h2
      refine ww_iload X dX5_differ_133 3 rfl ?_
      exact ww_iret X hp dX5_differ_135
  · have hp := hp.2 h1
    refine ww_goto X (tgt := 139) dX5_differ_124 (by decide) ?_
    exact wX5_differ_b139 X hK85 x3 x4 x5 z hp
set_option maxHeartbeats 4000000 in
set_option maxRecDepth 100000 in
theorem wX5_differ_b85 {p : Program} {l : Launch} {e : Env} {s : State} {m : MethodId} {args : Array Value} {below : List Frame} {meth : Method} {c : Code} {D : va_G} {A : Nat → Prop} {ad : Nat → Nat} {cB cI cZ : ClassId} {post : Int32 → Sg → Prop} {K85 : Int32 → Int32 → Int32 → Sg → Prop} (X : Cx p s m args meth c cX5_differ 6 (some .int) RX5 wsX5_differ D (tyL cB cI cZ) A) (hK85 : ∀ (x3 x4 x5 : Int32) (z : Sg), K85 x3 x4 x5 z → WW p l e rmX5_differ s m args below meth c 6 D A (mW ad cB cI cZ) (QI below args s D (tyL cB cI cZ) (mW ad cB cI cZ) A post) z 85 [(0, .ref (ad 0)), (3, .int x3), (4, .int x4), (5, .int x5)] []) (x3 x4 x5 : Int32) (z : Sg) (hp : pX5_differ_b85 K85 post x3 x4 x5 z) : WW p l e rmX5_differ s m args below meth c 6 D A (mW ad cB cI cZ) (QI below args s D (tyL cB cI cZ) (mW ad cB cI cZ) A post) z 85 [(0, .ref (ad 0)), (3, .int x3), (4, .int x4), (5, .int x5)] [] := by
  unfold pX5_differ_b85 at hp
  refine ww_iload X dX5_differ_85 3 rfl ?_
  refine ww_aload_n X dX5_differ_87 0 rfl ?_
  refine ww_get X in_X5_differ_X5 0 mg_0 rfl 4 (by decide) (X.wd 1 rfl) (v := .int (z.1 1)) rfl dX5_differ_88 ?_
  refine ww_icmp_ge X (tgt := 145) dX5_differ_91 (by decide) (fun h1 => ?_) (fun h1 => ?_)
  · have hp := hp.1 h1
    refine ww_sipush X (v := (-10000)) dX5_differ_145 (by decide) ?_
    exact ww_iret X hp dX5_differ_148
  · have hp := hp.2 h1
    refine ww_aload_n X dX5_differ_94 0 rfl ?_
    refine ww_get X in_X5_differ_X5 0 mg_0 rfl 20 (by decide) (X.wd 2 rfl) (v := .ref (ad 14)) rfl dX5_differ_95 ?_
    refine ww_iload X dX5_differ_98 3 rfl ?_
    obtain ⟨h2, hp⟩ := hp
    refine ww_iald X 14 1 mg_14 rfl (v := (gA z 13 x5)) h2 rfl dX5_differ_100 ?_
    refine ww_aload_n X dX5_differ_101 0 rfl ?_
    refine ww_get X in_X5_differ_X5 0 mg_0 rfl 16 (by decide) (X.wd 3 rfl) (v := .ref (ad 10)) rfl dX5_differ_102 ?_
    refine ww_iload X dX5_differ_105 3 rfl ?_
    obtain ⟨h3, hp⟩ := hp
    refine ww_zald X 10 2 mg_10 rfl (v := (gA z 9 x5)) h3 rfl dX5_differ_107 ?_
    refine ww_if_eq X (tgt := 120) dX5_differ_108 (by decide) (fun h4 => ?_) (fun h4 => ?_)
    · have hp := hp.1 h4
      refine ww_iconst X (v := 0) dX5_differ_120 (by decide) ?_
      exact wX5_differ_b121 X hK85 x3 x4 x5 0 (gA z 13 x5) z hp
    · have hp := hp.2 h4
      refine ww_aload_n X dX5_differ_111 0 rfl ?_
      refine ww_iload X dX5_differ_112 3 rfl ?_
      refine ww_callV_i X (As := [.int x5]) (rest := [.int (gA z 13 x5)]) (kX5_place l D ad cB cI cZ x5 z _ hp) (cwV 1 X.hts gX5_differ_X5_place rfl rfl rfl hd_X5_place ⟨Nat.le_of_ble_eq_true rfl, Nat.le_of_ble_eq_true rfl⟩) 0 5 mg_0 rfl rfl rfl rfl (Nat.le_of_ble_eq_true rfl) dX5_differ_114 (fun r6 u5 hp => ?_)
      refine ww_goto X (tgt := 121) dX5_differ_117 (by decide) ?_
      exact wX5_differ_b121 X hK85 x3 x4 x5 r6 (gA z 13 x5) u5 hp
set_option maxHeartbeats 4000000 in
set_option maxRecDepth 100000 in
theorem wX5_differ_l85 {p : Program} {l : Launch} {e : Env} {s : State} {m : MethodId} {args : Array Value} {below : List Frame} {meth : Method} {c : Code} {D : va_G} {A : Nat → Prop} {ad : Nat → Nat} {cB cI cZ : ClassId} {post : Int32 → Sg → Prop}  (X : Cx p s m args meth c cX5_differ 6 (some .int) RX5 wsX5_differ D (tyL cB cI cZ) A)  (x3 x4 x5 : Int32) (z : Sg) (hp : pX5_differ_l85  post x3 x4 x5 z) : WW p l e rmX5_differ s m args below meth c 6 D A (mW ad cB cI cZ) (QI below args s D (tyL cB cI cZ) (mW ad cB cI cZ) A post) z 85 [(0, .ref (ad 0)), (3, .int x3), (4, .int x4), (5, .int x5)] [] := by
  have key := lp_walk (F := (fun (K : Int32 × Int32 × Int32 → Sg → Prop) (a : Int32 × Int32 × Int32) (z : Sg) => pX5_differ_b85 (fun (x3 x4 x5 : Int32) z => K (x3, x4, x5) z) post a.1 a.2.1 a.2.2 z)) (P := fun a z => WW p l e rmX5_differ s m args below meth c 6 D A (mW ad cB cI cZ) (QI below args s D (tyL cB cI cZ) (mW ad cB cI cZ) A post) z 85 [(0, .ref (ad 0)), (3, .int a.1), (4, .int a.2.1), (5, .int a.2.2)] []) (fun K hK a z hp => wX5_differ_b85 X (fun x3 x4 x5 z h => hK (x3, x4, x5) z h) a.1 a.2.1 a.2.2 z hp)
  exact key (x3, x4, x5) z hp
set_option maxHeartbeats 4000000 in
set_option maxRecDepth 100000 in
theorem wX5_differ_b67 {p : Program} {l : Launch} {e : Env} {s : State} {m : MethodId} {args : Array Value} {below : List Frame} {meth : Method} {c : Code} {D : va_G} {A : Nat → Prop} {ad : Nat → Nat} {cB cI cZ : ClassId} {post : Int32 → Sg → Prop} {K32 : Int32 → Int32 → Int32 → Sg → Prop} (X : Cx p s m args meth c cX5_differ 6 (some .int) RX5 wsX5_differ D (tyL cB cI cZ) A) (hK32 : ∀ (x2 x3 x4 : Int32) (z : Sg), K32 x2 x3 x4 z → WW p l e rmX5_differ s m args below meth c 6 D A (mW ad cB cI cZ) (QI below args s D (tyL cB cI cZ) (mW ad cB cI cZ) A post) z 32 [(0, .ref (ad 0)), (2, .int x2), (3, .int x3), (4, .int x4)] []) (x2 x3 x4 y0 y1 : Int32) (z : Sg) (hp : pX5_differ_b67 K32 post x2 x3 x4 y0 y1 z) : WW p l e rmX5_differ s m args below meth c 6 D A (mW ad cB cI cZ) (QI below args s D (tyL cB cI cZ) (mW ad cB cI cZ) A post) z 67 [(0, .ref (ad 0)), (2, .int x2), (3, .int x3), (4, .int x4)] [.int y0, .int y1, .ref (ad 14)] := by
  unfold pX5_differ_b67 at hp
  obtain ⟨h1, hp⟩ := hp
  refine ww_iast X 14 1 mg_14 rfl (sg' := (sA z 13 y1 y0)) h1 ma_14 dX5_differ_67 ?_
  refine ww_iinc X (v := (x4 + 1)) (lv' := [(4, .int (x4 + 1)), (0, .ref (ad 0)), (2, .int x2), (3, .int x3)]) dX5_differ_68 3 rfl rfl (by decide) rfl ?_
  refine ww_goto X (tgt := 32) dX5_differ_71 (by decide) ?_
  exact ww_sub (lv' := [(0, .ref (ad 0)), (2, .int x2), (3, .int x3), (4, .int (x4 + 1))]) [1, 2, 3, 0] rfl (hK32 x2 x3 (x4 + 1) (sA z 13 y1 y0) hp)
set_option maxHeartbeats 4000000 in
set_option maxRecDepth 100000 in
theorem wX5_differ_b32 {p : Program} {l : Launch} {e : Env} {s : State} {m : MethodId} {args : Array Value} {below : List Frame} {meth : Method} {c : Code} {D : va_G} {A : Nat → Prop} {ad : Nat → Nat} {cB cI cZ : ClassId} {post : Int32 → Sg → Prop} {K32 : Int32 → Int32 → Int32 → Sg → Prop} (X : Cx p s m args meth c cX5_differ 6 (some .int) RX5 wsX5_differ D (tyL cB cI cZ) A) (hK32 : ∀ (x2 x3 x4 : Int32) (z : Sg), K32 x2 x3 x4 z → WW p l e rmX5_differ s m args below meth c 6 D A (mW ad cB cI cZ) (QI below args s D (tyL cB cI cZ) (mW ad cB cI cZ) A post) z 32 [(0, .ref (ad 0)), (2, .int x2), (3, .int x3), (4, .int x4)] []) (x2 x3 x4 : Int32) (z : Sg) (hp : pX5_differ_b32 K32 post x2 x3 x4 z) : WW p l e rmX5_differ s m args below meth c 6 D A (mW ad cB cI cZ) (QI below args s D (tyL cB cI cZ) (mW ad cB cI cZ) A post) z 32 [(0, .ref (ad 0)), (2, .int x2), (3, .int x3), (4, .int x4)] [] := by
  unfold pX5_differ_b32 at hp
  refine ww_iload X dX5_differ_32 3 rfl ?_
  refine ww_aload_n X dX5_differ_34 0 rfl ?_
  refine ww_get X in_X5_differ_X5 0 mg_0 rfl 4 (by decide) (X.wd 1 rfl) (v := .int (z.1 1)) rfl dX5_differ_35 ?_
  refine ww_icmp_ge X (tgt := 74) dX5_differ_38 (by decide) (fun h1 => ?_) (fun h1 => ?_)
  · have hp := hp.1 h1
    refine ww_aload_n X dX5_differ_74 0 rfl ?_
    refine ww_iload_n X dX5_differ_75 1 rfl ?_
    refine ww_callV_v X (As := [.int x2]) (rest := []) (kX5_works l D ad cB cI cZ x2 z _ hp) (cwV 1 X.hts gX5_differ_X5_works rfl rfl rfl hd_X5_works ⟨Nat.le_of_ble_eq_true rfl, Nat.le_of_ble_eq_true rfl⟩) 0 5 mg_0 rfl rfl rfl rfl (Nat.le_of_ble_eq_true rfl) dX5_differ_76 (fun u2 hp => ?_)
    refine ww_iconst X (v := 0) dX5_differ_79 (by decide) ?_
    refine ww_istore X (lv' := [(4, .int 0), (0, .ref (ad 0)), (2, .int x2), (3, .int x3)]) dX5_differ_80 (by decide) rfl ?_
    refine ww_iconst X (v := 0) dX5_differ_82 (by decide) ?_
    refine ww_istore X (lv' := [(5, .int 0), (4, .int 0), (0, .ref (ad 0)), (2, .int x2), (3, .int x3)]) dX5_differ_83 (by decide) rfl ?_
    exact ww_sub (lv' := [(0, .ref (ad 0)), (3, .int x3), (4, .int 0), (5, .int 0)]) [2, 4, 1, 0] rfl (wX5_differ_l85 X  x3 0 0 u2 hp)
  · have hp := hp.2 h1
    refine ww_aload_n X dX5_differ_41 0 rfl ?_
    refine ww_get X in_X5_differ_X5 0 mg_0 rfl 20 (by decide) (X.wd 2 rfl) (v := .ref (ad 14)) rfl dX5_differ_42 ?_
    refine ww_iload X dX5_differ_45 3 rfl ?_
    refine ww_aload_n X dX5_differ_47 0 rfl ?_
    refine ww_get X in_X5_differ_X5 0 mg_0 rfl 16 (by decide) (X.wd 3 rfl) (v := .ref (ad 10)) rfl dX5_differ_48 ?_
    refine ww_iload X dX5_differ_51 3 rfl ?_
    obtain ⟨h4, hp⟩ := hp
    refine ww_zald X 10 2 mg_10 rfl (v := (gA z 9 x4)) h4 rfl dX5_differ_53 ?_
    refine ww_if_eq X (tgt := 66) dX5_differ_54 (by decide) (fun h5 => ?_) (fun h5 => ?_)
    · have hp := hp.1 h5
      refine ww_iconst X (v := 0) dX5_differ_66 (by decide) ?_
      exact wX5_differ_b67 X hK32 x2 x3 x4 0 x4 z hp
    · have hp := hp.2 h5
      refine ww_aload_n X dX5_differ_57 0 rfl ?_
      refine ww_iload X dX5_differ_58 3 rfl ?_
      refine ww_callV_i X (As := [.int x4]) (rest := [.int x4, .ref (ad 14)]) (kX5_place l D ad cB cI cZ x4 z _ hp) (cwV 1 X.hts gX5_differ_X5_place rfl rfl rfl hd_X5_place ⟨Nat.le_of_ble_eq_true rfl, Nat.le_of_ble_eq_true rfl⟩) 0 5 mg_0 rfl rfl rfl rfl (Nat.le_of_ble_eq_true rfl) dX5_differ_60 (fun r7 u6 hp => ?_)
      refine ww_goto X (tgt := 67) dX5_differ_63 (by decide) ?_
      exact wX5_differ_b67 X hK32 x2 x3 x4 r7 x4 u6 hp
set_option maxHeartbeats 4000000 in
set_option maxRecDepth 100000 in
theorem wX5_differ_l32 {p : Program} {l : Launch} {e : Env} {s : State} {m : MethodId} {args : Array Value} {below : List Frame} {meth : Method} {c : Code} {D : va_G} {A : Nat → Prop} {ad : Nat → Nat} {cB cI cZ : ClassId} {post : Int32 → Sg → Prop}  (X : Cx p s m args meth c cX5_differ 6 (some .int) RX5 wsX5_differ D (tyL cB cI cZ) A)  (x2 x3 x4 : Int32) (z : Sg) (hp : pX5_differ_l32  post x2 x3 x4 z) : WW p l e rmX5_differ s m args below meth c 6 D A (mW ad cB cI cZ) (QI below args s D (tyL cB cI cZ) (mW ad cB cI cZ) A post) z 32 [(0, .ref (ad 0)), (2, .int x2), (3, .int x3), (4, .int x4)] [] := by
  have key := lp_walk (F := (fun (K : Int32 × Int32 × Int32 → Sg → Prop) (a : Int32 × Int32 × Int32) (z : Sg) => pX5_differ_b32 (fun (x2 x3 x4 : Int32) z => K (x2, x3, x4) z) post a.1 a.2.1 a.2.2 z)) (P := fun a z => WW p l e rmX5_differ s m args below meth c 6 D A (mW ad cB cI cZ) (QI below args s D (tyL cB cI cZ) (mW ad cB cI cZ) A post) z 32 [(0, .ref (ad 0)), (2, .int a.1), (3, .int a.2.1), (4, .int a.2.2)] []) (fun K hK a z hp => wX5_differ_b32 X (fun x2 x3 x4 z h => hK (x2, x3, x4) z h) a.1 a.2.1 a.2.2 z hp)
  exact key (x2, x3, x4) z hp
set_option maxHeartbeats 4000000 in
set_option maxRecDepth 100000 in
theorem wX5_differ_b20 {p : Program} {l : Launch} {e : Env} {s : State} {m : MethodId} {args : Array Value} {below : List Frame} {meth : Method} {c : Code} {D : va_G} {A : Nat → Prop} {ad : Nat → Nat} {cB cI cZ : ClassId} {post : Int32 → Sg → Prop}  (X : Cx p s m args meth c cX5_differ 6 (some .int) RX5 wsX5_differ D (tyL cB cI cZ) A)  (z : Sg) (hp : pX5_differ_b20  post  z) : WW p l e rmX5_differ s m args below meth c 6 D A (mW ad cB cI cZ) (QI below args s D (tyL cB cI cZ) (mW ad cB cI cZ) A post) z 20 [(0, .ref (ad 0))] [] := by
  unfold pX5_differ_b20 at hp
  refine ww_sipush X (v := (-10000)) dX5_differ_20 (by decide) ?_
  exact ww_iret X hp dX5_differ_23
set_option maxHeartbeats 4000000 in
set_option maxRecDepth 100000 in
theorem kX5_differ (l : Launch) (D : va_G) (ad : Nat → Nat) (cB cI cZ : ClassId) (a1 a2 a3 : Int32) (z : Sg) (post : Int32 → Sg → Prop) (hp : pX5_differ a1 a2 a3 z post) : Ci l D (tyL cB cI cZ) (mW ad cB cI cZ) yX5_differ wsX5_differ rmX5_differ [.ref (ad 0), .int a1, .int a2, .int a3] z post := by
  refine Ci.of (cc := cX5_differ) (maxL := 6) (ret := (some .int)) (by decide) rfl (Nat.le_of_ble_eq_true rfl) ?_
  intro p e s m args below meth c A X
  have X : Cx p s m args meth c cX5_differ 6 (some .int) RX5 wsX5_differ D (tyL cB cI cZ) A := X
  show WW p l e rmX5_differ s m args below meth c 6 D A (mW ad cB cI cZ) (QI below args s D (tyL cB cI cZ) (mW ad cB cI cZ) A post) z 0 [(0, .ref (ad 0)), (1, .int a1), (2, .int a2), (3, .int a3)] []
  unfold pX5_differ at hp
  refine ww_aload_n X dX5_differ_0 0 rfl ?_
  refine ww_iload_n X dX5_differ_1 1 rfl ?_
  refine ww_callV_i X (As := [.int a1]) (rest := []) (kX5_isKnowing l D ad cB cI cZ a1 z _ hp) (cwV 1 X.hts gX5_differ_X5_isKnowing rfl rfl rfl hd_X5_isKnowing ⟨Nat.le_of_ble_eq_true rfl, Nat.le_of_ble_eq_true rfl⟩) 0 5 mg_0 rfl rfl rfl rfl (Nat.le_of_ble_eq_true rfl) dX5_differ_2 (fun r2 u1 hp => ?_)
  refine ww_if_eq X (tgt := 20) dX5_differ_5 (by decide) (fun h3 => ?_) (fun h3 => ?_)
  · have hp := hp.1 h3
    exact ww_sub (lv' := [(0, .ref (ad 0))]) [0] rfl (wX5_differ_b20 X   u1 hp)
  · have hp := hp.2 h3
    refine ww_aload_n X dX5_differ_8 0 rfl ?_
    refine ww_iload_n X dX5_differ_9 2 rfl ?_
    refine ww_callV_i X (As := [.int a2]) (rest := []) (kX5_isKnowing l D ad cB cI cZ a2 u1 _ hp) (cwV 1 X.hts gX5_differ_X5_isKnowing rfl rfl rfl hd_X5_isKnowing ⟨Nat.le_of_ble_eq_true rfl, Nat.le_of_ble_eq_true rfl⟩) 0 5 mg_0 rfl rfl rfl rfl (Nat.le_of_ble_eq_true rfl) dX5_differ_10 (fun r5 u4 hp => ?_)
    refine ww_if_eq X (tgt := 20) dX5_differ_13 (by decide) (fun h6 => ?_) (fun h6 => ?_)
    · have hp := hp.1 h6
      exact ww_sub (lv' := [(0, .ref (ad 0))]) [0] rfl (wX5_differ_b20 X   u4 hp)
    · have hp := hp.2 h6
      refine ww_iload_n X dX5_differ_16 3 rfl ?_
      refine ww_if_ge X (tgt := 24) dX5_differ_17 (by decide) (fun h7 => ?_) (fun h7 => ?_)
      · have hp := hp.1 h7
        refine ww_aload_n X dX5_differ_24 0 rfl ?_
        refine ww_iload_n X dX5_differ_25 1 rfl ?_
        refine ww_callV_v X (As := [.int a1]) (rest := []) (kX5_works l D ad cB cI cZ a1 u4 _ hp) (cwV 1 X.hts gX5_differ_X5_works rfl rfl rfl hd_X5_works ⟨Nat.le_of_ble_eq_true rfl, Nat.le_of_ble_eq_true rfl⟩) 0 5 mg_0 rfl rfl rfl rfl (Nat.le_of_ble_eq_true rfl) dX5_differ_26 (fun u8 hp => ?_)
        refine ww_iconst X (v := 0) dX5_differ_29 (by decide) ?_
        refine ww_istore X (lv' := [(4, .int 0), (0, .ref (ad 0)), (1, .int a1), (2, .int a2), (3, .int a3)]) dX5_differ_30 (by decide) rfl ?_
        exact ww_sub (lv' := [(0, .ref (ad 0)), (2, .int a2), (3, .int a3), (4, .int 0)]) [1, 3, 4, 0] rfl (wX5_differ_l32 X  a2 a3 0 u8 hp)
      · have hp := hp.2 h7
        exact ww_sub (lv' := [(0, .ref (ad 0))]) [0] rfl (wX5_differ_b20 X   u4 hp)
set_option maxHeartbeats 4000000 in
set_option maxRecDepth 100000 in
theorem wX5_close_b107 {p : Program} {l : Launch} {e : Env} {s : State} {m : MethodId} {args : Array Value} {below : List Frame} {meth : Method} {c : Code} {D : va_G} {A : Nat → Prop} {ad : Nat → Nat} {cB cI cZ : ClassId} {post : Int32 → Sg → Prop}  (X : Cx p s m args meth c cX5_close 3 (some .int) RX5 wsX5_close D (tyL cB cI cZ) A)  (x1 : Int32) (z : Sg) (hp : pX5_close_b107  post x1 z) : WW p l e rmX5_close s m args below meth c 3 D A (mW ad cB cI cZ) (QI below args s D (tyL cB cI cZ) (mW ad cB cI cZ) A post) z 107 [(0, .ref (ad 0)), (1, .int x1)] [] := by
  unfold pX5_close_b107 at hp
  refine ww_aload_n X dX5_close_107 0 rfl ?_
  refine ww_iconst X (v := 0) dX5_close_108 (by decide) ?_
  refine ww_put X in_X5_close_X5 tyX5 tyX5_ok nmX5 0 mg_0 rfl 5 (by decide) (X.wd 1 rfl) rfl pd_X5_5 (Nat.le_of_ble_eq_true rfl) (sg' := (sS z 2 0)) ms_2 dX5_close_109 ?_
  refine ww_aload_n X dX5_close_112 0 rfl ?_
  refine ww_dup X dX5_close_113 rfl ?_
  refine ww_get X in_X5_close_X5 0 mg_0 rfl 6 (by decide) (X.wd 10 rfl) (v := .int (z.1 3)) rfl dX5_close_114 ?_
  refine ww_iconst X (v := 1) dX5_close_117 (by decide) ?_
  refine ww_iadd X dX5_close_118 ?_
  refine ww_put X in_X5_close_X5 tyX5 tyX5_ok nmX5 0 mg_0 rfl 6 (by decide) (X.wd 10 rfl) rfl pd_X5_6 (Nat.le_of_ble_eq_true rfl) (sg' := (sS (sS z 2 0) 3 ((z.1 3) + 1))) ms_3 dX5_close_119 ?_
  refine ww_iload_n X dX5_close_122 1 rfl ?_
  exact ww_iret X hp dX5_close_123
set_option maxHeartbeats 4000000 in
set_option maxRecDepth 100000 in
theorem wX5_close_b55 {p : Program} {l : Launch} {e : Env} {s : State} {m : MethodId} {args : Array Value} {below : List Frame} {meth : Method} {c : Code} {D : va_G} {A : Nat → Prop} {ad : Nat → Nat} {cB cI cZ : ClassId} {post : Int32 → Sg → Prop} {K12 : Int32 → Int32 → Sg → Prop} (X : Cx p s m args meth c cX5_close 3 (some .int) RX5 wsX5_close D (tyL cB cI cZ) A) (hK12 : ∀ (x1 x2 : Int32) (z : Sg), K12 x1 x2 z → WW p l e rmX5_close s m args below meth c 3 D A (mW ad cB cI cZ) (QI below args s D (tyL cB cI cZ) (mW ad cB cI cZ) A post) z 12 [(0, .ref (ad 0)), (1, .int x1), (2, .int x2)] []) (x1 x2 : Int32) (z : Sg) (hp : pX5_close_b55 K12 post x1 x2 z) : WW p l e rmX5_close s m args below meth c 3 D A (mW ad cB cI cZ) (QI below args s D (tyL cB cI cZ) (mW ad cB cI cZ) A post) z 55 [(0, .ref (ad 0)), (1, .int x1), (2, .int x2)] [] := by
  unfold pX5_close_b55 at hp
  refine ww_iinc X (v := (x2 + 1)) (lv' := [(2, .int (x2 + 1)), (0, .ref (ad 0)), (1, .int x1)]) dX5_close_55 2 rfl rfl (by decide) rfl ?_
  refine ww_goto X (tgt := 12) dX5_close_58 (by decide) ?_
  exact ww_sub (lv' := [(0, .ref (ad 0)), (1, .int x1), (2, .int (x2 + 1))]) [1, 2, 0] rfl (hK12 x1 (x2 + 1) z hp)
set_option maxHeartbeats 4000000 in
set_option maxRecDepth 100000 in
theorem wX5_close_b12 {p : Program} {l : Launch} {e : Env} {s : State} {m : MethodId} {args : Array Value} {below : List Frame} {meth : Method} {c : Code} {D : va_G} {A : Nat → Prop} {ad : Nat → Nat} {cB cI cZ : ClassId} {post : Int32 → Sg → Prop} {K12 : Int32 → Int32 → Sg → Prop} (X : Cx p s m args meth c cX5_close 3 (some .int) RX5 wsX5_close D (tyL cB cI cZ) A) (hK12 : ∀ (x1 x2 : Int32) (z : Sg), K12 x1 x2 z → WW p l e rmX5_close s m args below meth c 3 D A (mW ad cB cI cZ) (QI below args s D (tyL cB cI cZ) (mW ad cB cI cZ) A post) z 12 [(0, .ref (ad 0)), (1, .int x1), (2, .int x2)] []) (x1 x2 : Int32) (z : Sg) (hp : pX5_close_b12 K12 post x1 x2 z) : WW p l e rmX5_close s m args below meth c 3 D A (mW ad cB cI cZ) (QI below args s D (tyL cB cI cZ) (mW ad cB cI cZ) A post) z 12 [(0, .ref (ad 0)), (1, .int x1), (2, .int x2)] [] := by
  unfold pX5_close_b12 at hp
  refine ww_iload_n X dX5_close_12 2 rfl ?_
  refine ww_aload_n X dX5_close_13 0 rfl ?_
  refine ww_get X in_X5_close_X5 0 mg_0 rfl 4 (by decide) (X.wd 2 rfl) (v := .int (z.1 1)) rfl dX5_close_14 ?_
  refine ww_icmp_ge X (tgt := 61) dX5_close_17 (by decide) (fun h1 => ?_) (fun h1 => ?_)
  · have hp := hp.1 h1
    refine ww_iload_n X dX5_close_61 1 rfl ?_
    refine ww_if_ne X (tgt := 69) dX5_close_62 (by decide) (fun h2 => ?_) (fun h2 => ?_)
    · have hp := hp.1 h2
      refine ww_aload_n X dX5_close_69 0 rfl ?_
      refine ww_callV_i X (As := []) (rest := []) (kX5_longest l D ad cB cI cZ  z _ hp) (cwV 0 X.hts gX5_close_X5_longest rfl rfl rfl hd_X5_longest ⟨Nat.le_of_ble_eq_true rfl, Nat.le_of_ble_eq_true rfl⟩) 0 5 mg_0 rfl rfl rfl rfl (Nat.le_of_ble_eq_true rfl) dX5_close_70 (fun r4 u3 hp => ?_)
      refine ww_istore_n X (lv' := [(2, .int r4), (0, .ref (ad 0)), (1, .int x1)]) dX5_close_73 (by decide) rfl ?_
      refine ww_aload_n X dX5_close_74 1 rfl ?_
      refine ww_iload_n X dX5_close_75 0 rfl ?_
      refine ww_callV_i X (As := [.int r4]) (rest := []) (kX5_isGreater l D ad cB cI cZ r4 u3 _ hp) (cwV 1 X.hts gX5_close_X5_isGreater rfl rfl rfl hd_X5_isGreater ⟨Nat.le_of_ble_eq_true rfl, Nat.le_of_ble_eq_true rfl⟩) 0 5 mg_0 rfl rfl rfl rfl (Nat.le_of_ble_eq_true rfl) dX5_close_76 (fun r6 u5 hp => ?_)
      refine ww_if_eq X (tgt := 107) dX5_close_79 (by decide) (fun h7 => ?_) (fun h7 => ?_)
      · have hp := hp.1 h7
        exact ww_sub (lv' := [(0, .ref (ad 0)), (1, .int x1)]) [1, 2] rfl (wX5_close_b107 X  x1 u5 hp)
      · have hp := hp.2 h7
        refine ww_aload_n X dX5_close_82 1 rfl ?_
        refine ww_aload_n X dX5_close_83 1 rfl ?_
        refine ww_get X in_X5_close_X5 0 mg_0 rfl 13 (by decide) (X.wd 6 rfl) (v := .ref (ad 9)) rfl dX5_close_84 ?_
        refine ww_iconst X (v := 5) dX5_close_87 (by decide) ?_
        refine ww_iload_n X dX5_close_88 0 rfl ?_
        refine ww_imul X dX5_close_89 ?_
        obtain ⟨h8, hp⟩ := hp
        refine ww_iald X 9 1 mg_9 rfl (v := (gA u5 8 (5 * r4))) h8 rfl dX5_close_90 ?_
        refine ww_put X in_X5_close_X5 tyX5 tyX5_ok nmX5 0 mg_0 rfl 14 (by decide) (X.wd 7 rfl) rfl pd_X5_14 (Nat.le_of_ble_eq_true rfl) (sg' := (sS u5 5 (gA u5 8 (5 * r4)))) ms_5 dX5_close_91 ?_
        refine ww_aload_n X dX5_close_94 1 rfl ?_
        refine ww_aload_n X dX5_close_95 1 rfl ?_
        refine ww_get X in_X5_close_X5 0 mg_0 rfl 12 (by decide) (X.wd 8 rfl) (v := .ref (ad 8)) rfl dX5_close_96 ?_
        refine ww_iload_n X dX5_close_99 0 rfl ?_
        obtain ⟨h9, hp⟩ := hp
        refine ww_iald X 8 1 mg_8 rfl (v := (gA u5 7 r4)) h9 rfl dX5_close_100 ?_
        refine ww_bipush X (v := 32) dX5_close_101 (by decide) ?_
        refine ww_irem X dX5_close_103 (by decide) ?_
        refine ww_top (fun v10 hv10 => ?_)
        have hp := hp v10 hv10
        refine ww_put X in_X5_close_X5 tyX5 tyX5_ok nmX5 0 mg_0 rfl 15 (by decide) (X.wd 9 rfl) rfl pd_X5_15 (Nat.le_of_ble_eq_true rfl) (sg' := (sS (sS u5 5 (gA u5 8 (5 * r4))) 6 v10)) ms_6 dX5_close_104 ?_
        exact ww_sub (lv' := [(0, .ref (ad 0)), (1, .int x1)]) [1, 2] rfl (wX5_close_b107 X  x1 (sS (sS u5 5 (gA u5 8 (5 * r4))) 6 v10) hp)
    · have hp := hp.2 h2
      refine ww_sipush X (v := (-10000)) dX5_close_65 (by decide) ?_
      exact ww_iret X hp dX5_close_68
  · have hp := hp.2 h1
    refine ww_aload_n X dX5_close_20 0 rfl ?_
    refine ww_get X in_X5_close_X5 0 mg_0 rfl 16 (by decide) (X.wd 3 rfl) (v := .ref (ad 10)) rfl dX5_close_21 ?_
    refine ww_iload_n X dX5_close_24 2 rfl ?_
    obtain ⟨h11, hp⟩ := hp
    refine ww_zald X 10 2 mg_10 rfl (v := (gA z 9 x2)) h11 rfl dX5_close_25 ?_
    refine ww_if_ne X (tgt := 32) dX5_close_26 (by decide) (fun h12 => ?_) (fun h12 => ?_)
    · have hp := hp.1 h12
      refine ww_aload_n X dX5_close_32 0 rfl ?_
      refine ww_get X in_X5_close_X5 0 mg_0 rfl 9 (by decide) (X.wd 4 rfl) (v := .ref (ad 5)) rfl dX5_close_33 ?_
      refine ww_iload_n X dX5_close_36 2 rfl ?_
      refine ww_dup2 X dX5_close_37 rfl rfl ?_
      obtain ⟨h13, hp⟩ := hp
      refine ww_iald X 5 1 mg_5 rfl (v := (gA z 4 x2)) h13 rfl dX5_close_38 ?_
      obtain ⟨t14, hzt14, hTt14⟩ := X.hE.1.2.2.2.2.2
      refine ww_gets X hzt14 (X.wd 5 rfl) dX5_close_39 ?_
      refine ww_aload_n X dX5_close_42 0 rfl ?_
      refine ww_iload_n X dX5_close_43 2 rfl ?_
      refine ww_callV_i X (As := [.int x2]) (rest := [.ref t14, .int (gA z 4 x2), .int x2, .ref (ad 5)]) (kX5_place l D ad cB cI cZ x2 z _ hp) (cwV 1 X.hts gX5_close_X5_place rfl rfl rfl hd_X5_place ⟨Nat.le_of_ble_eq_true rfl, Nat.le_of_ble_eq_true rfl⟩) 0 5 mg_0 rfl rfl rfl rfl (Nat.le_of_ble_eq_true rfl) dX5_close_44 (fun r16 u15 hp => ?_)
      refine ww_iconst X (v := 1) dX5_close_47 (by decide) ?_
      refine ww_isub X dX5_close_48 ?_
      obtain ⟨h17, hp⟩ := hp
      refine ww_ti X hTt14 h17 dX5_close_49 ?_
      refine ww_iadd X dX5_close_50 ?_
      refine ww_top (fun v19 hv19 => ?_)
      have hp := hp v19 hv19
      obtain ⟨h18, hp⟩ := hp
      refine ww_iast X 5 1 mg_5 rfl (sg' := (sA u15 4 x2 v19)) h18 ma_5 dX5_close_51 ?_
      refine ww_iinc X (v := (x1 + 1)) (lv' := [(1, .int (x1 + 1)), (0, .ref (ad 0)), (2, .int x2)]) dX5_close_52 1 rfl rfl (by decide) rfl ?_
      exact ww_sub (lv' := [(0, .ref (ad 0)), (1, .int (x1 + 1)), (2, .int x2)]) [1, 0, 2] rfl (wX5_close_b55 X hK12 (x1 + 1) x2 (sA u15 4 x2 v19) hp)
    · have hp := hp.2 h12
      refine ww_goto X (tgt := 55) dX5_close_29 (by decide) ?_
      exact wX5_close_b55 X hK12 x1 x2 z hp
set_option maxHeartbeats 4000000 in
set_option maxRecDepth 100000 in
theorem wX5_close_l12 {p : Program} {l : Launch} {e : Env} {s : State} {m : MethodId} {args : Array Value} {below : List Frame} {meth : Method} {c : Code} {D : va_G} {A : Nat → Prop} {ad : Nat → Nat} {cB cI cZ : ClassId} {post : Int32 → Sg → Prop}  (X : Cx p s m args meth c cX5_close 3 (some .int) RX5 wsX5_close D (tyL cB cI cZ) A)  (x1 x2 : Int32) (z : Sg) (hp : pX5_close_l12  post x1 x2 z) : WW p l e rmX5_close s m args below meth c 3 D A (mW ad cB cI cZ) (QI below args s D (tyL cB cI cZ) (mW ad cB cI cZ) A post) z 12 [(0, .ref (ad 0)), (1, .int x1), (2, .int x2)] [] := by
  have key := lp_walk (F := (fun (K : Int32 × Int32 → Sg → Prop) (a : Int32 × Int32) (z : Sg) => pX5_close_b12 (fun (x1 x2 : Int32) z => K (x1, x2) z) post a.1 a.2 z)) (P := fun a z => WW p l e rmX5_close s m args below meth c 3 D A (mW ad cB cI cZ) (QI below args s D (tyL cB cI cZ) (mW ad cB cI cZ) A post) z 12 [(0, .ref (ad 0)), (1, .int a.1), (2, .int a.2)] []) (fun K hK a z hp => wX5_close_b12 X (fun x1 x2 z h => hK (x1, x2) z h) a.1 a.2 z hp)
  exact key (x1, x2) z hp
set_option maxHeartbeats 4000000 in
set_option maxRecDepth 100000 in
theorem kX5_close (l : Launch) (D : va_G) (ad : Nat → Nat) (cB cI cZ : ClassId) (z : Sg) (post : Int32 → Sg → Prop) (hp : pX5_close  z post) : Ci l D (tyL cB cI cZ) (mW ad cB cI cZ) yX5_close wsX5_close rmX5_close [.ref (ad 0)] z post := by
  refine Ci.of (cc := cX5_close) (maxL := 3) (ret := (some .int)) (by decide) rfl (Nat.le_of_ble_eq_true rfl) ?_
  intro p e s m args below meth c A X
  have X : Cx p s m args meth c cX5_close 3 (some .int) RX5 wsX5_close D (tyL cB cI cZ) A := X
  show WW p l e rmX5_close s m args below meth c 3 D A (mW ad cB cI cZ) (QI below args s D (tyL cB cI cZ) (mW ad cB cI cZ) A post) z 0 [(0, .ref (ad 0))] []
  unfold pX5_close at hp
  refine ww_aload_n X dX5_close_0 0 rfl ?_
  refine ww_aload_n X dX5_close_1 0 rfl ?_
  refine ww_get X in_X5_close_X5 0 mg_0 rfl 5 (by decide) (X.wd 1 rfl) (v := .int (z.1 2)) rfl dX5_close_2 ?_
  refine ww_callV_v X (As := [.int (z.1 2)]) (rest := []) (kX5_works l D ad cB cI cZ (z.1 2) z _ hp) (cwV 1 X.hts gX5_close_X5_works rfl rfl rfl hd_X5_works ⟨Nat.le_of_ble_eq_true rfl, Nat.le_of_ble_eq_true rfl⟩) 0 5 mg_0 rfl rfl rfl rfl (Nat.le_of_ble_eq_true rfl) dX5_close_5 (fun u1 hp => ?_)
  refine ww_iconst X (v := 0) dX5_close_8 (by decide) ?_
  refine ww_istore_n X (lv' := [(1, .int 0), (0, .ref (ad 0))]) dX5_close_9 (by decide) rfl ?_
  refine ww_iconst X (v := 0) dX5_close_10 (by decide) ?_
  refine ww_istore_n X (lv' := [(2, .int 0), (1, .int 0), (0, .ref (ad 0))]) dX5_close_11 (by decide) rfl ?_
  exact ww_sub (lv' := [(0, .ref (ad 0)), (1, .int 0), (2, .int 0)]) [2, 1, 0] rfl (wX5_close_l12 X  0 0 u1 hp)
set_option maxHeartbeats 4000000 in
set_option maxRecDepth 100000 in
theorem wX5_count_b80 {p : Program} {l : Launch} {e : Env} {s : State} {m : MethodId} {args : Array Value} {below : List Frame} {meth : Method} {c : Code} {D : va_G} {A : Nat → Prop} {ad : Nat → Nat} {cB cI cZ : ClassId} {post : Int32 → Sg → Prop} {K37 : Int32 → Int32 → Int32 → Int32 → Sg → Prop} (X : Cx p s m args meth c cX5_count 5 (some .int) RX5 wsX5_count D (tyL cB cI cZ) A) (hK37 : ∀ (x1 x2 x3 x4 : Int32) (z : Sg), K37 x1 x2 x3 x4 z → WW p l e rmX5_count s m args below meth c 5 D A (mW ad cB cI cZ) (QI below args s D (tyL cB cI cZ) (mW ad cB cI cZ) A post) z 37 [(0, .ref (ad 0)), (1, .int x1), (2, .int x2), (3, .int x3), (4, .int x4)] []) (x1 x2 x4 y0 y1 : Int32) (z : Sg) (hp : pX5_count_b80 K37 post x1 x2 x4 y0 y1 z) : WW p l e rmX5_count s m args below meth c 5 D A (mW ad cB cI cZ) (QI below args s D (tyL cB cI cZ) (mW ad cB cI cZ) A post) z 80 [(0, .ref (ad 0)), (1, .int x1), (2, .int x2), (4, .int x4)] [.int y0, .int y1] := by
  unfold pX5_count_b80 at hp
  refine ww_iadd X dX5_count_80 ?_
  refine ww_top (fun v1 hv1 => ?_)
  have hp := hp v1 hv1
  refine ww_istore_n X (lv' := [(3, .int v1), (0, .ref (ad 0)), (1, .int x1), (2, .int x2), (4, .int x4)]) dX5_count_81 (by decide) rfl ?_
  refine ww_iinc X (v := (x4 + 1)) (lv' := [(4, .int (x4 + 1)), (3, .int v1), (0, .ref (ad 0)), (1, .int x1), (2, .int x2)]) dX5_count_82 4 rfl rfl (by decide) rfl ?_
  refine ww_goto X (tgt := 37) dX5_count_85 (by decide) ?_
  exact ww_sub (lv' := [(0, .ref (ad 0)), (1, .int x1), (2, .int x2), (3, .int v1), (4, .int (x4 + 1))]) [2, 3, 4, 1, 0] rfl (hK37 x1 x2 v1 (x4 + 1) z hp)
set_option maxHeartbeats 4000000 in
set_option maxRecDepth 100000 in
theorem wX5_count_b62 {p : Program} {l : Launch} {e : Env} {s : State} {m : MethodId} {args : Array Value} {below : List Frame} {meth : Method} {c : Code} {D : va_G} {A : Nat → Prop} {ad : Nat → Nat} {cB cI cZ : ClassId} {post : Int32 → Sg → Prop} {K37 : Int32 → Int32 → Int32 → Int32 → Sg → Prop} (X : Cx p s m args meth c cX5_count 5 (some .int) RX5 wsX5_count D (tyL cB cI cZ) A) (hK37 : ∀ (x1 x2 x3 x4 : Int32) (z : Sg), K37 x1 x2 x3 x4 z → WW p l e rmX5_count s m args below meth c 5 D A (mW ad cB cI cZ) (QI below args s D (tyL cB cI cZ) (mW ad cB cI cZ) A post) z 37 [(0, .ref (ad 0)), (1, .int x1), (2, .int x2), (3, .int x3), (4, .int x4)] []) (x1 x3 x4 y0 y1 : Int32) (z : Sg) (hp : pX5_count_b62 K37 post x1 x3 x4 y0 y1 z) : WW p l e rmX5_count s m args below meth c 5 D A (mW ad cB cI cZ) (QI below args s D (tyL cB cI cZ) (mW ad cB cI cZ) A post) z 62 [(0, .ref (ad 0)), (1, .int x1), (3, .int x3), (4, .int x4)] [.int y0, .int y1] := by
  unfold pX5_count_b62 at hp
  refine ww_iadd X dX5_count_62 ?_
  refine ww_top (fun v1 hv1 => ?_)
  have hp := hp v1 hv1
  refine ww_istore_n X (lv' := [(2, .int v1), (0, .ref (ad 0)), (1, .int x1), (3, .int x3), (4, .int x4)]) dX5_count_63 (by decide) rfl ?_
  refine ww_iload_n X dX5_count_64 3 rfl ?_
  refine ww_aload_n X dX5_count_65 1 rfl ?_
  refine ww_get X in_X5_count_X5 0 mg_0 rfl 17 (by decide) (X.wd 5 rfl) (v := .ref (ad 11)) rfl dX5_count_66 ?_
  refine ww_iload X dX5_count_69 4 rfl ?_
  obtain ⟨h2, hp⟩ := hp
  refine ww_zald X 11 2 mg_11 rfl (v := (gA z 10 x4)) h2 rfl dX5_count_71 ?_
  refine ww_if_eq X (tgt := 79) dX5_count_72 (by decide) (fun h3 => ?_) (fun h3 => ?_)
  · have hp := hp.1 h3
    refine ww_iconst X (v := 0) dX5_count_79 (by decide) ?_
    exact ww_sub (lv' := [(0, .ref (ad 0)), (1, .int x1), (2, .int v1), (4, .int x4)]) [1, 2, 0, 4] rfl (wX5_count_b80 X hK37 x1 v1 x4 0 x3 z hp)
  · have hp := hp.2 h3
    refine ww_iconst X (v := 1) dX5_count_75 (by decide) ?_
    refine ww_goto X (tgt := 80) dX5_count_76 (by decide) ?_
    exact ww_sub (lv' := [(0, .ref (ad 0)), (1, .int x1), (2, .int v1), (4, .int x4)]) [1, 2, 0, 4] rfl (wX5_count_b80 X hK37 x1 v1 x4 1 x3 z hp)
set_option maxHeartbeats 4000000 in
set_option maxRecDepth 100000 in
theorem wX5_count_b37 {p : Program} {l : Launch} {e : Env} {s : State} {m : MethodId} {args : Array Value} {below : List Frame} {meth : Method} {c : Code} {D : va_G} {A : Nat → Prop} {ad : Nat → Nat} {cB cI cZ : ClassId} {post : Int32 → Sg → Prop} {K37 : Int32 → Int32 → Int32 → Int32 → Sg → Prop} (X : Cx p s m args meth c cX5_count 5 (some .int) RX5 wsX5_count D (tyL cB cI cZ) A) (hK37 : ∀ (x1 x2 x3 x4 : Int32) (z : Sg), K37 x1 x2 x3 x4 z → WW p l e rmX5_count s m args below meth c 5 D A (mW ad cB cI cZ) (QI below args s D (tyL cB cI cZ) (mW ad cB cI cZ) A post) z 37 [(0, .ref (ad 0)), (1, .int x1), (2, .int x2), (3, .int x3), (4, .int x4)] []) (x1 x2 x3 x4 : Int32) (z : Sg) (hp : pX5_count_b37 K37 post x1 x2 x3 x4 z) : WW p l e rmX5_count s m args below meth c 5 D A (mW ad cB cI cZ) (QI below args s D (tyL cB cI cZ) (mW ad cB cI cZ) A post) z 37 [(0, .ref (ad 0)), (1, .int x1), (2, .int x2), (3, .int x3), (4, .int x4)] [] := by
  unfold pX5_count_b37 at hp
  refine ww_iload X dX5_count_37 4 rfl ?_
  refine ww_aload_n X dX5_count_39 0 rfl ?_
  refine ww_get X in_X5_count_X5 0 mg_0 rfl 4 (by decide) (X.wd 3 rfl) (v := .int (z.1 1)) rfl dX5_count_40 ?_
  refine ww_icmp_ge X (tgt := 88) dX5_count_43 (by decide) (fun h1 => ?_) (fun h1 => ?_)
  · have hp := hp.1 h1
    refine ww_iload_n X dX5_count_88 1 rfl ?_
    rcases Classical.em (x1 = 0) with h2 | h2
    · have hp := hp.1 h2
      refine ww_tin X (0) (off := 43) (tgt := 132) dX5_count_89 h2 (by decide) (by decide) (by decide) (by decide) ?_
      refine ww_aload_n X dX5_count_132 0 rfl ?_
      refine ww_get X in_X5_count_X5 0 mg_0 rfl 4 (by decide) (X.wd 3 rfl) (v := .int (z.1 1)) rfl dX5_count_133 ?_
      exact ww_iret X hp dX5_count_136
    have hp := hp.2 h2
    rcases Classical.em (x1 = 1) with h3 | h3
    · have hp := hp.1 h3
      refine ww_tin X (1) (off := 48) (tgt := 137) dX5_count_89 h3 (by decide) (by decide) (by decide) (by decide) ?_
      refine ww_aload_n X dX5_count_137 0 rfl ?_
      refine ww_get X in_X5_count_X5 0 mg_0 rfl 5 (by decide) (X.wd 2 rfl) (v := .int (z.1 2)) rfl dX5_count_138 ?_
      exact ww_iret X hp dX5_count_141
    have hp := hp.2 h3
    rcases Classical.em (x1 = 2) with h4 | h4
    · have hp := hp.1 h4
      refine ww_tin X (2) (off := 53) (tgt := 142) dX5_count_89 h4 (by decide) (by decide) (by decide) (by decide) ?_
      refine ww_aload_n X dX5_count_142 0 rfl ?_
      refine ww_get X in_X5_count_X5 0 mg_0 rfl 6 (by decide) (X.wd 6 rfl) (v := .int (z.1 3)) rfl dX5_count_143 ?_
      exact ww_iret X hp dX5_count_146
    have hp := hp.2 h4
    rcases Classical.em (x1 = 3) with h5 | h5
    · have hp := hp.1 h5
      refine ww_tin X (3) (off := 58) (tgt := 147) dX5_count_89 h5 (by decide) (by decide) (by decide) (by decide) ?_
      refine ww_aload_n X dX5_count_147 0 rfl ?_
      refine ww_get X in_X5_count_X5 0 mg_0 rfl 7 (by decide) (X.wd 7 rfl) (v := .int (z.1 4)) rfl dX5_count_148 ?_
      exact ww_iret X hp dX5_count_151
    have hp := hp.2 h5
    rcases Classical.em (x1 = 4) with h6 | h6
    · have hp := hp.1 h6
      refine ww_tin X (4) (off := 63) (tgt := 152) dX5_count_89 h6 (by decide) (by decide) (by decide) (by decide) ?_
      refine ww_iload_n X dX5_count_152 2 rfl ?_
      exact ww_iret X hp dX5_count_153
    have hp := hp.2 h6
    rcases Classical.em (x1 = 5) with h7 | h7
    · have hp := hp.1 h7
      refine ww_tin X (5) (off := 65) (tgt := 154) dX5_count_89 h7 (by decide) (by decide) (by decide) (by decide) ?_
      refine ww_iload_n X dX5_count_154 3 rfl ?_
      exact ww_iret X hp dX5_count_155
    have hp := hp.2 h7
    rcases Classical.em (x1 = 6) with h8 | h8
    · have hp := hp.1 h8
      refine ww_tin X (6) (off := 67) (tgt := 156) dX5_count_89 h8 (by decide) (by decide) (by decide) (by decide) ?_
      refine ww_aload_n X dX5_count_156 0 rfl ?_
      refine ww_get X in_X5_count_X5 0 mg_0 rfl 1 (by decide) (X.wd 8 rfl) (v := .int (z.1 0)) rfl dX5_count_157 ?_
      exact ww_iret X hp dX5_count_160
    have hp := hp.2 h8
    have e9 : x1.toInt ≠ 0 := fun q => h2 (Int32.toInt_inj.mp (q.trans (by decide)))
    have e10 : x1.toInt ≠ 1 := fun q => h3 (Int32.toInt_inj.mp (q.trans (by decide)))
    have e11 : x1.toInt ≠ 2 := fun q => h4 (Int32.toInt_inj.mp (q.trans (by decide)))
    have e12 : x1.toInt ≠ 3 := fun q => h5 (Int32.toInt_inj.mp (q.trans (by decide)))
    have e13 : x1.toInt ≠ 4 := fun q => h6 (Int32.toInt_inj.mp (q.trans (by decide)))
    have e14 : x1.toInt ≠ 5 := fun q => h7 (Int32.toInt_inj.mp (q.trans (by decide)))
    have e15 : x1.toInt ≠ 6 := fun q => h8 (Int32.toInt_inj.mp (q.trans (by decide)))
    refine ww_tout X (tgt := 161) dX5_count_89 (by omega) (by decide) ?_
    refine ww_sipush X (v := (-10000)) dX5_count_161 (by decide) ?_
    exact ww_iret X hp dX5_count_164
  · have hp := hp.2 h1
    refine ww_iload_n X dX5_count_46 2 rfl ?_
    refine ww_aload_n X dX5_count_47 0 rfl ?_
    refine ww_get X in_X5_count_X5 0 mg_0 rfl 16 (by decide) (X.wd 4 rfl) (v := .ref (ad 10)) rfl dX5_count_48 ?_
    refine ww_iload X dX5_count_51 4 rfl ?_
    obtain ⟨h16, hp⟩ := hp
    refine ww_zald X 10 2 mg_10 rfl (v := (gA z 9 x4)) h16 rfl dX5_count_53 ?_
    refine ww_if_eq X (tgt := 61) dX5_count_54 (by decide) (fun h17 => ?_) (fun h17 => ?_)
    · have hp := hp.1 h17
      refine ww_iconst X (v := 0) dX5_count_61 (by decide) ?_
      exact ww_sub (lv' := [(0, .ref (ad 0)), (1, .int x1), (3, .int x3), (4, .int x4)]) [0, 1, 3, 4] rfl (wX5_count_b62 X hK37 x1 x3 x4 0 x2 z hp)
    · have hp := hp.2 h17
      refine ww_iconst X (v := 1) dX5_count_57 (by decide) ?_
      refine ww_goto X (tgt := 62) dX5_count_58 (by decide) ?_
      exact ww_sub (lv' := [(0, .ref (ad 0)), (1, .int x1), (3, .int x3), (4, .int x4)]) [0, 1, 3, 4] rfl (wX5_count_b62 X hK37 x1 x3 x4 1 x2 z hp)
set_option maxHeartbeats 4000000 in
set_option maxRecDepth 100000 in
theorem wX5_count_l37 {p : Program} {l : Launch} {e : Env} {s : State} {m : MethodId} {args : Array Value} {below : List Frame} {meth : Method} {c : Code} {D : va_G} {A : Nat → Prop} {ad : Nat → Nat} {cB cI cZ : ClassId} {post : Int32 → Sg → Prop}  (X : Cx p s m args meth c cX5_count 5 (some .int) RX5 wsX5_count D (tyL cB cI cZ) A)  (x1 x2 x3 x4 : Int32) (z : Sg) (hp : pX5_count_l37  post x1 x2 x3 x4 z) : WW p l e rmX5_count s m args below meth c 5 D A (mW ad cB cI cZ) (QI below args s D (tyL cB cI cZ) (mW ad cB cI cZ) A post) z 37 [(0, .ref (ad 0)), (1, .int x1), (2, .int x2), (3, .int x3), (4, .int x4)] [] := by
  have key := lp_walk (F := (fun (K : Int32 × Int32 × Int32 × Int32 → Sg → Prop) (a : Int32 × Int32 × Int32 × Int32) (z : Sg) => pX5_count_b37 (fun (x1 x2 x3 x4 : Int32) z => K (x1, x2, x3, x4) z) post a.1 a.2.1 a.2.2.1 a.2.2.2 z)) (P := fun a z => WW p l e rmX5_count s m args below meth c 5 D A (mW ad cB cI cZ) (QI below args s D (tyL cB cI cZ) (mW ad cB cI cZ) A post) z 37 [(0, .ref (ad 0)), (1, .int a.1), (2, .int a.2.1), (3, .int a.2.2.1), (4, .int a.2.2.2)] []) (fun K hK a z hp => wX5_count_b37 X (fun x1 x2 x3 x4 z h => hK (x1, x2, x3, x4) z h) a.1 a.2.1 a.2.2.1 a.2.2.2 z hp)
  exact key (x1, x2, x3, x4) z hp
set_option maxHeartbeats 4000000 in
set_option maxRecDepth 100000 in
theorem kX5_count (l : Launch) (D : va_G) (ad : Nat → Nat) (cB cI cZ : ClassId) (a1 : Int32) (z : Sg) (post : Int32 → Sg → Prop) (hp : pX5_count a1 z post) : Ci l D (tyL cB cI cZ) (mW ad cB cI cZ) yX5_count wsX5_count rmX5_count [.ref (ad 0), .int a1] z post := by
  refine Ci.of (cc := cX5_count) (maxL := 5) (ret := (some .int)) (by decide) rfl (Nat.le_of_ble_eq_true rfl) ?_
  intro p e s m args below meth c A X
  have X : Cx p s m args meth c cX5_count 5 (some .int) RX5 wsX5_count D (tyL cB cI cZ) A := X
  show WW p l e rmX5_count s m args below meth c 5 D A (mW ad cB cI cZ) (QI below args s D (tyL cB cI cZ) (mW ad cB cI cZ) A post) z 0 [(0, .ref (ad 0)), (1, .int a1)] []
  unfold pX5_count at hp
  refine ww_iload_n X dX5_count_0 1 rfl ?_
  refine ww_bipush X (v := 10) dX5_count_1 (by decide) ?_
  refine ww_isub X dX5_count_3 ?_
  refine ww_iconst X (v := 0) dX5_count_4 (by decide) ?_
  refine ww_iconst X (v := 4) dX5_count_5 (by decide) ?_
  refine ww_callS_i X (As := [.int (a1 - 10), .int 0, .int 4]) (rest := []) (kX5_lies l D ad cB cI cZ (a1 - 10) 0 4 z _ hp) (va_cwS 3 X.hts gX5_count_X5_lies rfl rfl rfl hn_X5_lies ⟨Nat.le_of_ble_eq_true rfl, Nat.le_of_ble_eq_true rfl⟩) rfl rfl (Nat.le_of_ble_eq_true rfl) dX5_count_6 (fun r2 u1 hp => ?_)
  refine ww_if_eq X (tgt := 22) dX5_count_9 (by decide) (fun h3 => ?_) (fun h3 => ?_)
  · have hp := hp.1 h3
    refine ww_iconst X (v := 0) dX5_count_22 (by decide) ?_
    refine ww_istore_n X (lv' := [(2, .int 0), (0, .ref (ad 0)), (1, .int a1)]) dX5_count_23 (by decide) rfl ?_
    refine ww_iconst X (v := 0) dX5_count_24 (by decide) ?_
    refine ww_istore_n X (lv' := [(3, .int 0), (2, .int 0), (0, .ref (ad 0)), (1, .int a1)]) dX5_count_25 (by decide) rfl ?_
    refine ww_aload_n X dX5_count_26 2 rfl ?_
    refine ww_aload_n X dX5_count_27 2 rfl ?_
    refine ww_get X in_X5_count_X5 0 mg_0 rfl 5 (by decide) (X.wd 2 rfl) (v := .int (u1.1 2)) rfl dX5_count_28 ?_
    refine ww_callV_v X (As := [.int (u1.1 2)]) (rest := []) (kX5_works l D ad cB cI cZ (u1.1 2) u1 _ hp) (cwV 1 X.hts gX5_count_X5_works rfl rfl rfl hd_X5_works ⟨Nat.le_of_ble_eq_true rfl, Nat.le_of_ble_eq_true rfl⟩) 0 5 mg_0 rfl rfl rfl rfl (Nat.le_of_ble_eq_true rfl) dX5_count_31 (fun u4 hp => ?_)
    refine ww_iconst X (v := 0) dX5_count_34 (by decide) ?_
    refine ww_istore X (lv' := [(4, .int 0), (3, .int 0), (2, .int 0), (0, .ref (ad 0)), (1, .int a1)]) dX5_count_35 (by decide) rfl ?_
    exact ww_sub (lv' := [(0, .ref (ad 0)), (1, .int a1), (2, .int 0), (3, .int 0), (4, .int 0)]) [3, 4, 2, 1, 0] rfl (wX5_count_l37 X  a1 0 0 0 u4 hp)
  · have hp := hp.2 h3
    refine ww_aload_n X dX5_count_12 0 rfl ?_
    refine ww_get X in_X5_count_X5 0 mg_0 rfl 10 (by decide) (X.wd 1 rfl) (v := .ref (ad 6)) rfl dX5_count_13 ?_
    refine ww_iload_n X dX5_count_16 1 rfl ?_
    refine ww_bipush X (v := 10) dX5_count_17 (by decide) ?_
    refine ww_isub X dX5_count_19 ?_
    obtain ⟨h6, hp⟩ := hp
    refine ww_iald X 6 1 mg_6 rfl (v := (gA u1 5 (a1 - 10))) h6 rfl dX5_count_20 ?_
    exact ww_iret X hp dX5_count_21
