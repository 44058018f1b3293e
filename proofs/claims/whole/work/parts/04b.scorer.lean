set_option maxHeartbeats 4000000 in
set_option maxRecDepth 100000 in
theorem wX3_know_b71 {p : Program} {l : Launch} {e : Env} {s : State} {m : MethodId} {args : Array Value} {below : List Frame} {meth : Method} {c : Code} {D : va_G} {A : Nat → Prop} {ad : Nat → Nat} {cB cI cZ : ClassId} {post : Sg → Prop}  (X : Cx p s m args meth c cX3_know 4 none RX3 wsX3_know D (tyL cB cI cZ) A)  (z : Sg) (hp : pX3_know_b71  post  z) : WW p l e rmX3_know s m args below meth c 4 D A (cW ad cB cI cZ) (QV below args s D (tyL cB cI cZ) (cW ad cB cI cZ) A post) z 71 [(0, .ref (ad 2))] [] := by
  unfold pX3_know_b71 at hp
  exact ww_vret X hp dX3_know_71
set_option maxHeartbeats 4000000 in
set_option maxRecDepth 100000 in
theorem wX3_know_b65 {p : Program} {l : Launch} {e : Env} {s : State} {m : MethodId} {args : Array Value} {below : List Frame} {meth : Method} {c : Code} {D : va_G} {A : Nat → Prop} {ad : Nat → Nat} {cB cI cZ : ClassId} {post : Sg → Prop} {K10 : Int32 → Int32 → Sg → Prop} (X : Cx p s m args meth c cX3_know 4 none RX3 wsX3_know D (tyL cB cI cZ) A) (hK10 : ∀ (x1 x2 : Int32) (z : Sg), K10 x1 x2 z → WW p l e rmX3_know s m args below meth c 4 D A (cW ad cB cI cZ) (QV below args s D (tyL cB cI cZ) (cW ad cB cI cZ) A post) z 10 [(0, .ref (ad 2)), (1, .int x1), (2, .int x2)] []) (x1 x2 : Int32) (z : Sg) (hp : pX3_know_b65 K10 post x1 x2 z) : WW p l e rmX3_know s m args below meth c 4 D A (cW ad cB cI cZ) (QV below args s D (tyL cB cI cZ) (cW ad cB cI cZ) A post) z 65 [(0, .ref (ad 2)), (1, .int x1), (2, .int x2)] [] := by
  unfold pX3_know_b65 at hp
  refine ww_iinc X (v := (x2 + 1)) (lv' := [(2, .int (x2 + 1)), (0, .ref (ad 2)), (1, .int x1)]) dX3_know_65 2 rfl rfl (by decide) rfl ?_
  refine ww_goto X (tgt := 10) dX3_know_68 (by decide) ?_
  exact ww_sub (lv' := [(0, .ref (ad 2)), (1, .int x1), (2, .int (x2 + 1))]) [1, 2, 0] rfl (hK10 x1 (x2 + 1) z hp)
set_option maxHeartbeats 4000000 in
set_option maxRecDepth 100000 in
theorem wX3_know_b10 {p : Program} {l : Launch} {e : Env} {s : State} {m : MethodId} {args : Array Value} {below : List Frame} {meth : Method} {c : Code} {D : va_G} {A : Nat → Prop} {ad : Nat → Nat} {cB cI cZ : ClassId} {post : Sg → Prop} {K10 : Int32 → Int32 → Sg → Prop} (X : Cx p s m args meth c cX3_know 4 none RX3 wsX3_know D (tyL cB cI cZ) A) (hK10 : ∀ (x1 x2 : Int32) (z : Sg), K10 x1 x2 z → WW p l e rmX3_know s m args below meth c 4 D A (cW ad cB cI cZ) (QV below args s D (tyL cB cI cZ) (cW ad cB cI cZ) A post) z 10 [(0, .ref (ad 2)), (1, .int x1), (2, .int x2)] []) (x1 x2 : Int32) (z : Sg) (hp : pX3_know_b10 K10 post x1 x2 z) : WW p l e rmX3_know s m args below meth c 4 D A (cW ad cB cI cZ) (QV below args s D (tyL cB cI cZ) (cW ad cB cI cZ) A post) z 10 [(0, .ref (ad 2)), (1, .int x1), (2, .int x2)] [] := by
  unfold pX3_know_b10 at hp
  refine ww_iload_n X dX3_know_10 2 rfl ?_
  refine ww_iload_n X dX3_know_11 1 rfl ?_
  refine ww_icmp_ge X (tgt := 71) dX3_know_12 (by decide) (fun h1 => ?_) (fun h1 => ?_)
  · have hp := hp.1 h1
    exact ww_sub (lv' := [(0, .ref (ad 2))]) [0] rfl (wX3_know_b71 X   z hp)
  · have hp := hp.2 h1
    refine ww_iload_n X dX3_know_15 2 rfl ?_
    refine ww_sipush X (v := 200) dX3_know_16 (by decide) ?_
    refine ww_icmp_ge X (tgt := 71) dX3_know_19 (by decide) (fun h2 => ?_) (fun h2 => ?_)
    · have hp := hp.1 h2
      exact ww_sub (lv' := [(0, .ref (ad 2))]) [0] rfl (wX3_know_b71 X   z hp)
    · have hp := hp.2 h2
      refine ww_aload_n X dX3_know_22 0 rfl ?_
      refine ww_get X in_X3_know_X3 2 cg_2 rfl 1 (by decide) (X.wd 2 rfl) (v := .ref (ad 6)) rfl dX3_know_23 ?_
      refine ww_getN X in_X3_know_X1 6 cg_6 rfl 0 (by decide) (X.nest 13 rfl) (v := .ref (ad 7)) rfl dX3_know_26 ?_
      refine ww_iload_n X dX3_know_29 2 rfl ?_
      obtain ⟨h3, hp⟩ := hp
      refine ww_iald X 7 1 cg_7 rfl (v := (gA z 3 x2)) h3 rfl dX3_know_30 ?_
      refine ww_bipush X (v := 48) dX3_know_31 (by decide) ?_
      refine ww_imul X dX3_know_33 ?_
      refine ww_aload_n X dX3_know_34 0 rfl ?_
      refine ww_get X in_X3_know_X3 2 cg_2 rfl 1 (by decide) (X.wd 2 rfl) (v := .ref (ad 6)) rfl dX3_know_35 ?_
      refine ww_getN X in_X3_know_X1 6 cg_6 rfl 1 (by decide) (X.nest 14 rfl) (v := .ref (ad 8)) rfl dX3_know_38 ?_
      refine ww_iload_n X dX3_know_41 2 rfl ?_
      obtain ⟨h4, hp⟩ := hp
      refine ww_iald X 8 1 cg_8 rfl (v := (gA z 4 x2)) h4 rfl dX3_know_42 ?_
      refine ww_iadd X dX3_know_43 ?_
      refine ww_top (fun v5 hv5 => ?_)
      have hp := hp v5 hv5
      refine ww_istore_n X (lv' := [(3, .int v5), (0, .ref (ad 2)), (1, .int x1), (2, .int x2)]) dX3_know_44 (by decide) rfl ?_
      refine ww_iload_n X dX3_know_45 0 rfl ?_
      refine ww_if_lt X (tgt := 65) dX3_know_46 (by decide) (fun h6 => ?_) (fun h6 => ?_)
      · have hp := hp.1 h6
        exact ww_sub (lv' := [(0, .ref (ad 2)), (1, .int x1), (2, .int x2)]) [1, 2, 3] rfl (wX3_know_b65 X hK10 x1 x2 z hp)
      · have hp := hp.2 h6
        refine ww_iload_n X dX3_know_49 0 rfl ?_
        refine ww_aload_n X dX3_know_50 1 rfl ?_
        refine ww_get X in_X3_know_X3 2 cg_2 rfl 4 (by decide) (X.wd 1 rfl) (v := .ref (ad 11)) rfl dX3_know_51 ?_
        refine ww_alen X 11 1 cg_11 rfl (v := 192) rfl dX3_know_54 ?_
        refine ww_icmp_ge X (tgt := 65) dX3_know_55 (by decide) (fun h7 => ?_) (fun h7 => ?_)
        · have hp := hp.1 h7
          exact ww_sub (lv' := [(0, .ref (ad 2)), (1, .int x1), (2, .int x2)]) [1, 2, 3] rfl (wX3_know_b65 X hK10 x1 x2 z hp)
        · have hp := hp.2 h7
          refine ww_aload_n X dX3_know_58 1 rfl ?_
          refine ww_get X in_X3_know_X3 2 cg_2 rfl 4 (by decide) (X.wd 1 rfl) (v := .ref (ad 11)) rfl dX3_know_59 ?_
          refine ww_iload_n X dX3_know_62 0 rfl ?_
          refine ww_iload_n X dX3_know_63 3 rfl ?_
          obtain ⟨h8, hp⟩ := hp
          refine ww_iast X 11 1 cg_11 rfl (sg' := (sA z 7 v5 x2)) h8 ca_11 dX3_know_64 ?_
          exact ww_sub (lv' := [(0, .ref (ad 2)), (1, .int x1), (2, .int x2)]) [1, 2, 3] rfl (wX3_know_b65 X hK10 x1 x2 (sA z 7 v5 x2) hp)
set_option maxHeartbeats 4000000 in
set_option maxRecDepth 100000 in
theorem wX3_know_l10 {p : Program} {l : Launch} {e : Env} {s : State} {m : MethodId} {args : Array Value} {below : List Frame} {meth : Method} {c : Code} {D : va_G} {A : Nat → Prop} {ad : Nat → Nat} {cB cI cZ : ClassId} {post : Sg → Prop}  (X : Cx p s m args meth c cX3_know 4 none RX3 wsX3_know D (tyL cB cI cZ) A)  (x1 x2 : Int32) (z : Sg) (hp : pX3_know_l10  post x1 x2 z) : WW p l e rmX3_know s m args below meth c 4 D A (cW ad cB cI cZ) (QV below args s D (tyL cB cI cZ) (cW ad cB cI cZ) A post) z 10 [(0, .ref (ad 2)), (1, .int x1), (2, .int x2)] [] := by
  have key := lp_walk (F := (fun (K : Int32 × Int32 → Sg → Prop) (a : Int32 × Int32) (z : Sg) => pX3_know_b10 (fun (x1 x2 : Int32) z => K (x1, x2) z) post a.1 a.2 z)) (P := fun a z => WW p l e rmX3_know s m args below meth c 4 D A (cW ad cB cI cZ) (QV below args s D (tyL cB cI cZ) (cW ad cB cI cZ) A post) z 10 [(0, .ref (ad 2)), (1, .int a.1), (2, .int a.2)] []) (fun K hK a z hp => wX3_know_b10 X (fun x1 x2 z h => hK (x1, x2) z h) a.1 a.2 z hp)
  exact key (x1, x2) z hp
set_option maxHeartbeats 4000000 in
set_option maxRecDepth 100000 in
theorem kX3_know (l : Launch) (D : va_G) (ad : Nat → Nat) (cB cI cZ : ClassId) (a1 : Int32) (z : Sg) (post : Sg → Prop) (hp : pX3_know a1 z post) : Cv l D (tyL cB cI cZ) (cW ad cB cI cZ) yX3_know wsX3_know rmX3_know [.ref (ad 2), .int a1] z post := by
  refine Cv.of (cc := cX3_know) (maxL := 4) (ret := none) (by decide) rfl (Nat.le_of_ble_eq_true rfl) ?_
  intro p e s m args below meth c A X
  have X : Cx p s m args meth c cX3_know 4 none RX3 wsX3_know D (tyL cB cI cZ) A := X
  show WW p l e rmX3_know s m args below meth c 4 D A (cW ad cB cI cZ) (QV below args s D (tyL cB cI cZ) (cW ad cB cI cZ) A post) z 0 [(0, .ref (ad 2)), (1, .int a1)] []
  unfold pX3_know at hp
  refine ww_aload_n X dX3_know_0 0 rfl ?_
  refine ww_get X in_X3_know_X3 2 cg_2 rfl 4 (by decide) (X.wd 1 rfl) (v := .ref (ad 11)) rfl dX3_know_1 ?_
  refine ww_iconst X (v := (-1)) dX3_know_4 (by decide) ?_
  refine ww_callS_v X (As := [.ref (ad 11), .int (-1)]) (rest := []) (kJ7_fill_53178 l D ad cB cI cZ (-1) z _ hp) (va_cwS 2 X.hts gX3_know_J7_fill_53178 rfl rfl rfl hn_J7_fill_53178 ⟨Nat.le_of_ble_eq_true rfl, Nat.le_of_ble_eq_true rfl⟩) rfl rfl (Nat.le_of_ble_eq_true rfl) dX3_know_5 (fun u1 hp => ?_)
  refine ww_iconst X (v := 0) dX3_know_8 (by decide) ?_
  refine ww_istore_n X (lv' := [(2, .int 0), (0, .ref (ad 2)), (1, .int a1)]) dX3_know_9 (by decide) rfl ?_
  exact ww_sub (lv' := [(0, .ref (ad 2)), (1, .int a1), (2, .int 0)]) [1, 2, 0] rfl (wX3_know_l10 X  a1 0 u1 hp)
set_option maxHeartbeats 4000000 in
set_option maxRecDepth 100000 in
theorem wX3_countingOf_b30 {p : Program} {l : Launch} {e : Env} {s : State} {m : MethodId} {args : Array Value} {below : List Frame} {meth : Method} {c : Code} {D : va_G} {A : Nat → Prop} {ad : Nat → Nat} {cB cI cZ : ClassId} {post : Int32 → Sg → Prop}  (X : Cx p s m args meth c cX3_countingOf 4 (some .int) RX3 wsX3_countingOf D (tyL cB cI cZ) A)  (y0 : Int32) (z : Sg) (hp : pX3_countingOf_b30  post y0 z) : WW p l e rmX3_countingOf s m args below meth c 4 D A (cW ad cB cI cZ) (QI below args s D (tyL cB cI cZ) (cW ad cB cI cZ) A post) z 30 [(0, .ref (ad 2))] [.int y0] := by
  unfold pX3_countingOf_b30 at hp
  exact ww_iret X hp dX3_countingOf_30
set_option maxHeartbeats 4000000 in
set_option maxRecDepth 100000 in
theorem wX3_countingOf_b29 {p : Program} {l : Launch} {e : Env} {s : State} {m : MethodId} {args : Array Value} {below : List Frame} {meth : Method} {c : Code} {D : va_G} {A : Nat → Prop} {ad : Nat → Nat} {cB cI cZ : ClassId} {post : Int32 → Sg → Prop}  (X : Cx p s m args meth c cX3_countingOf 4 (some .int) RX3 wsX3_countingOf D (tyL cB cI cZ) A)  (z : Sg) (hp : pX3_countingOf_b29  post  z) : WW p l e rmX3_countingOf s m args below meth c 4 D A (cW ad cB cI cZ) (QI below args s D (tyL cB cI cZ) (cW ad cB cI cZ) A post) z 29 [(0, .ref (ad 2))] [] := by
  unfold pX3_countingOf_b29 at hp
  refine ww_iconst X (v := (-1)) dX3_countingOf_29 (by decide) ?_
  exact wX3_countingOf_b30 X  (-1) z hp
set_option maxHeartbeats 4000000 in
set_option maxRecDepth 100000 in
theorem kX3_countingOf (l : Launch) (D : va_G) (ad : Nat → Nat) (cB cI cZ : ClassId) (a1 a2 : Int32) (z : Sg) (post : Int32 → Sg → Prop) (hp : pX3_countingOf a1 a2 z post) : Ci l D (tyL cB cI cZ) (cW ad cB cI cZ) yX3_countingOf wsX3_countingOf rmX3_countingOf [.ref (ad 2), .int a1, .int a2] z post := by
  refine Ci.of (cc := cX3_countingOf) (maxL := 4) (ret := (some .int)) (by decide) rfl (Nat.le_of_ble_eq_true rfl) ?_
  intro p e s m args below meth c A X
  have X : Cx p s m args meth c cX3_countingOf 4 (some .int) RX3 wsX3_countingOf D (tyL cB cI cZ) A := X
  show WW p l e rmX3_countingOf s m args below meth c 4 D A (cW ad cB cI cZ) (QI below args s D (tyL cB cI cZ) (cW ad cB cI cZ) A post) z 0 [(0, .ref (ad 2)), (1, .int a1), (2, .int a2)] []
  unfold pX3_countingOf at hp
  refine ww_iload_n X dX3_countingOf_0 1 rfl ?_
  refine ww_bipush X (v := 48) dX3_countingOf_1 (by decide) ?_
  refine ww_imul X dX3_countingOf_3 ?_
  refine ww_iload_n X dX3_countingOf_4 2 rfl ?_
  refine ww_iadd X dX3_countingOf_5 ?_
  refine ww_top (fun v1 hv1 => ?_)
  have hp := hp v1 hv1
  refine ww_istore_n X (lv' := [(3, .int v1), (0, .ref (ad 2)), (1, .int a1), (2, .int a2)]) dX3_countingOf_6 (by decide) rfl ?_
  refine ww_iload_n X dX3_countingOf_7 0 rfl ?_
  refine ww_if_lt X (tgt := 29) dX3_countingOf_8 (by decide) (fun h2 => ?_) (fun h2 => ?_)
  · have hp := hp.1 h2
    exact ww_sub (lv' := [(0, .ref (ad 2))]) [1] rfl (wX3_countingOf_b29 X   z hp)
  · have hp := hp.2 h2
    refine ww_iload_n X dX3_countingOf_11 0 rfl ?_
    refine ww_aload_n X dX3_countingOf_12 1 rfl ?_
    refine ww_get X in_X3_countingOf_X3 2 cg_2 rfl 4 (by decide) (X.wd 1 rfl) (v := .ref (ad 11)) rfl dX3_countingOf_13 ?_
    refine ww_alen X 11 1 cg_11 rfl (v := 192) rfl dX3_countingOf_16 ?_
    refine ww_icmp_ge X (tgt := 29) dX3_countingOf_17 (by decide) (fun h3 => ?_) (fun h3 => ?_)
    · have hp := hp.1 h3
      exact ww_sub (lv' := [(0, .ref (ad 2))]) [1] rfl (wX3_countingOf_b29 X   z hp)
    · have hp := hp.2 h3
      refine ww_aload_n X dX3_countingOf_20 1 rfl ?_
      refine ww_get X in_X3_countingOf_X3 2 cg_2 rfl 4 (by decide) (X.wd 1 rfl) (v := .ref (ad 11)) rfl dX3_countingOf_21 ?_
      refine ww_iload_n X dX3_countingOf_24 0 rfl ?_
      obtain ⟨h4, hp⟩ := hp
      refine ww_iald X 11 1 cg_11 rfl (v := (gA z 7 v1)) h4 rfl dX3_countingOf_25 ?_
      refine ww_goto X (tgt := 30) dX3_countingOf_26 (by decide) ?_
      exact ww_sub (lv' := [(0, .ref (ad 2))]) [1] rfl (wX3_countingOf_b30 X  (gA z 7 v1) z hp)
set_option maxHeartbeats 4000000 in
set_option maxRecDepth 100000 in
theorem wX3_isStruck_b29 {p : Program} {l : Launch} {e : Env} {s : State} {m : MethodId} {args : Array Value} {below : List Frame} {meth : Method} {c : Code} {D : va_G} {A : Nat → Prop} {ad : Nat → Nat} {cB cI cZ : ClassId} {post : Int32 → Sg → Prop}  (X : Cx p s m args meth c cX3_isStruck 3 (some .boolean) RX3 wsX3_isStruck D (tyL cB cI cZ) A)  (y0 : Int32) (z : Sg) (hp : pX3_isStruck_b29  post y0 z) : WW p l e rmX3_isStruck s m args below meth c 3 D A (cW ad cB cI cZ) (QI below args s D (tyL cB cI cZ) (cW ad cB cI cZ) A post) z 29 [(0, .ref (ad 2))] [.int y0] := by
  unfold pX3_isStruck_b29 at hp
  exact ww_zret X hp.1 hp.2 dX3_isStruck_29
set_option maxHeartbeats 4000000 in
set_option maxRecDepth 100000 in
theorem wX3_isStruck_b28 {p : Program} {l : Launch} {e : Env} {s : State} {m : MethodId} {args : Array Value} {below : List Frame} {meth : Method} {c : Code} {D : va_G} {A : Nat → Prop} {ad : Nat → Nat} {cB cI cZ : ClassId} {post : Int32 → Sg → Prop}  (X : Cx p s m args meth c cX3_isStruck 3 (some .boolean) RX3 wsX3_isStruck D (tyL cB cI cZ) A)  (z : Sg) (hp : pX3_isStruck_b28  post  z) : WW p l e rmX3_isStruck s m args below meth c 3 D A (cW ad cB cI cZ) (QI below args s D (tyL cB cI cZ) (cW ad cB cI cZ) A post) z 28 [(0, .ref (ad 2))] [] := by
  unfold pX3_isStruck_b28 at hp
  refine ww_iconst X (v := 0) dX3_isStruck_28 (by decide) ?_
  exact wX3_isStruck_b29 X  0 z hp
set_option maxHeartbeats 4000000 in
set_option maxRecDepth 100000 in
theorem kX3_isStruck (l : Launch) (D : va_G) (ad : Nat → Nat) (cB cI cZ : ClassId) (a1 : Int32) (z : Sg) (post : Int32 → Sg → Prop) (hp : pX3_isStruck a1 z post) : Ci l D (tyL cB cI cZ) (cW ad cB cI cZ) yX3_isStruck wsX3_isStruck rmX3_isStruck [.ref (ad 2), .int a1] z post := by
  refine Ci.of (cc := cX3_isStruck) (maxL := 3) (ret := (some .boolean)) (by decide) rfl (Nat.le_of_ble_eq_true rfl) ?_
  intro p e s m args below meth c A X
  have X : Cx p s m args meth c cX3_isStruck 3 (some .boolean) RX3 wsX3_isStruck D (tyL cB cI cZ) A := X
  show WW p l e rmX3_isStruck s m args below meth c 3 D A (cW ad cB cI cZ) (QI below args s D (tyL cB cI cZ) (cW ad cB cI cZ) A post) z 0 [(0, .ref (ad 2)), (1, .int a1)] []
  unfold pX3_isStruck at hp
  refine ww_aload_n X dX3_isStruck_0 0 rfl ?_
  refine ww_iconst X (v := 3) dX3_isStruck_1 (by decide) ?_
  refine ww_iload_n X dX3_isStruck_2 1 rfl ?_
  refine ww_callV_i X (As := [.int 3, .int a1]) (rest := []) (kX3_countingOf l D ad cB cI cZ 3 a1 z _ hp) (cwV 2 X.hts gX3_isStruck_X3_countingOf rfl rfl rfl hd_X3_countingOf ⟨Nat.le_of_ble_eq_true rfl, Nat.le_of_ble_eq_true rfl⟩) 2 3 cg_2 rfl rfl rfl rfl (Nat.le_of_ble_eq_true rfl) dX3_isStruck_3 (fun r2 u1 hp => ?_)
  refine ww_istore_n X (lv' := [(2, .int r2), (0, .ref (ad 2)), (1, .int a1)]) dX3_isStruck_6 (by decide) rfl ?_
  refine ww_iload_n X dX3_isStruck_7 0 rfl ?_
  refine ww_if_lt X (tgt := 28) dX3_isStruck_8 (by decide) (fun h3 => ?_) (fun h3 => ?_)
  · have hp := hp.1 h3
    exact ww_sub (lv' := [(0, .ref (ad 2))]) [1] rfl (wX3_isStruck_b28 X   u1 hp)
  · have hp := hp.2 h3
    refine ww_aload_n X dX3_isStruck_11 1 rfl ?_
    refine ww_get X in_X3_isStruck_X3 2 cg_2 rfl 1 (by decide) (X.wd 1 rfl) (v := .ref (ad 6)) rfl dX3_isStruck_12 ?_
    refine ww_iload_n X dX3_isStruck_15 0 rfl ?_
    refine ww_iconst X (v := 0) dX3_isStruck_16 (by decide) ?_
    refine ww_callN_i X (As := [.int r2, .int 0]) (rest := []) (kX1_value l D ad cB cI cZ r2 0 u1 _ hp) (⟨va_cnB 2 X.hts gX3_isStruck_X1_value_n52 rfl rfl rfl (X.hE.2 _ (List.mem_of_getElem? (i := 43) rfl)) (X.wd 9 rfl) hn_X1_value ⟨Nat.le_of_ble_eq_true rfl, Nat.le_of_ble_eq_true rfl⟩, (X.wd 8 rfl), (X.wd 10 rfl)⟩) 6 1 cg_6 rfl rfl rfl rfl (Nat.le_of_ble_eq_true rfl) dX3_isStruck_17 (fun r5 u4 hp => ?_)
    refine ww_iconst X (v := 1) dX3_isStruck_20 (by decide) ?_
    refine ww_icmp_ne X (tgt := 28) dX3_isStruck_21 (by decide) (fun h6 => ?_) (fun h6 => ?_)
    · have hp := hp.1 h6
      exact ww_sub (lv' := [(0, .ref (ad 2))]) [1] rfl (wX3_isStruck_b28 X   u4 hp)
    · have hp := hp.2 h6
      refine ww_iconst X (v := 1) dX3_isStruck_24 (by decide) ?_
      refine ww_goto X (tgt := 29) dX3_isStruck_25 (by decide) ?_
      exact ww_sub (lv' := [(0, .ref (ad 2))]) [1] rfl (wX3_isStruck_b29 X  1 u4 hp)
set_option maxHeartbeats 4000000 in
set_option maxRecDepth 100000 in
theorem wX3_hasPoints_b22 {p : Program} {l : Launch} {e : Env} {s : State} {m : MethodId} {args : Array Value} {below : List Frame} {meth : Method} {c : Code} {D : va_G} {A : Nat → Prop} {ad : Nat → Nat} {cB cI cZ : ClassId} {post : Int32 → Sg → Prop}  (X : Cx p s m args meth c cX3_hasPoints 2 (some .boolean) RX3 wsX3_hasPoints D (tyL cB cI cZ) A)  (y0 : Int32) (z : Sg) (hp : pX3_hasPoints_b22  post y0 z) : WW p l e rmX3_hasPoints s m args below meth c 2 D A (cW ad cB cI cZ) (QI below args s D (tyL cB cI cZ) (cW ad cB cI cZ) A post) z 22 [(0, .ref (ad 2))] [.int y0] := by
  unfold pX3_hasPoints_b22 at hp
  exact ww_zret X hp.1 hp.2 dX3_hasPoints_22
set_option maxHeartbeats 4000000 in
set_option maxRecDepth 100000 in
theorem wX3_hasPoints_b21 {p : Program} {l : Launch} {e : Env} {s : State} {m : MethodId} {args : Array Value} {below : List Frame} {meth : Method} {c : Code} {D : va_G} {A : Nat → Prop} {ad : Nat → Nat} {cB cI cZ : ClassId} {post : Int32 → Sg → Prop}  (X : Cx p s m args meth c cX3_hasPoints 2 (some .boolean) RX3 wsX3_hasPoints D (tyL cB cI cZ) A)  (z : Sg) (hp : pX3_hasPoints_b21  post  z) : WW p l e rmX3_hasPoints s m args below meth c 2 D A (cW ad cB cI cZ) (QI below args s D (tyL cB cI cZ) (cW ad cB cI cZ) A post) z 21 [(0, .ref (ad 2))] [] := by
  unfold pX3_hasPoints_b21 at hp
  refine ww_iconst X (v := 0) dX3_hasPoints_21 (by decide) ?_
  exact wX3_hasPoints_b22 X  0 z hp
set_option maxHeartbeats 4000000 in
set_option maxRecDepth 100000 in
theorem kX3_hasPoints (l : Launch) (D : va_G) (ad : Nat → Nat) (cB cI cZ : ClassId) (a1 : Int32) (z : Sg) (post : Int32 → Sg → Prop) (hp : pX3_hasPoints a1 z post) : Ci l D (tyL cB cI cZ) (cW ad cB cI cZ) yX3_hasPoints wsX3_hasPoints rmX3_hasPoints [.ref (ad 2), .int a1] z post := by
  refine Ci.of (cc := cX3_hasPoints) (maxL := 2) (ret := (some .boolean)) (by decide) rfl (Nat.le_of_ble_eq_true rfl) ?_
  intro p e s m args below meth c A X
  have X : Cx p s m args meth c cX3_hasPoints 2 (some .boolean) RX3 wsX3_hasPoints D (tyL cB cI cZ) A := X
  show WW p l e rmX3_hasPoints s m args below meth c 2 D A (cW ad cB cI cZ) (QI below args s D (tyL cB cI cZ) (cW ad cB cI cZ) A post) z 0 [(0, .ref (ad 2)), (1, .int a1)] []
  unfold pX3_hasPoints at hp
  refine ww_aload_n X dX3_hasPoints_0 0 rfl ?_
  refine ww_iconst X (v := 0) dX3_hasPoints_1 (by decide) ?_
  refine ww_iload_n X dX3_hasPoints_2 1 rfl ?_
  refine ww_callV_i X (As := [.int 0, .int a1]) (rest := []) (kX3_countingOf l D ad cB cI cZ 0 a1 z _ hp) (cwV 2 X.hts gX3_hasPoints_X3_countingOf rfl rfl rfl hd_X3_countingOf ⟨Nat.le_of_ble_eq_true rfl, Nat.le_of_ble_eq_true rfl⟩) 2 3 cg_2 rfl rfl rfl rfl (Nat.le_of_ble_eq_true rfl) dX3_hasPoints_3 (fun r2 u1 hp => ?_)
  refine ww_if_lt X (tgt := 21) dX3_hasPoints_6 (by decide) (fun h3 => ?_) (fun h3 => ?_)
  · have hp := hp.1 h3
    exact ww_sub (lv' := [(0, .ref (ad 2))]) [0] rfl (wX3_hasPoints_b21 X   u1 hp)
  · have hp := hp.2 h3
    refine ww_aload_n X dX3_hasPoints_9 0 rfl ?_
    refine ww_iload_n X dX3_hasPoints_10 1 rfl ?_
    refine ww_callV_i X (As := [.int a1]) (rest := []) (kX3_isStruck l D ad cB cI cZ a1 u1 _ hp) (cwV 1 X.hts gX3_hasPoints_X3_isStruck rfl rfl rfl hd_X3_isStruck ⟨Nat.le_of_ble_eq_true rfl, Nat.le_of_ble_eq_true rfl⟩) 2 3 cg_2 rfl rfl rfl rfl (Nat.le_of_ble_eq_true rfl) dX3_hasPoints_11 (fun r5 u4 hp => ?_)
    refine ww_if_ne X (tgt := 21) dX3_hasPoints_14 (by decide) (fun h6 => ?_) (fun h6 => ?_)
    · have hp := hp.1 h6
      exact ww_sub (lv' := [(0, .ref (ad 2))]) [0] rfl (wX3_hasPoints_b21 X   u4 hp)
    · have hp := hp.2 h6
      refine ww_iconst X (v := 1) dX3_hasPoints_17 (by decide) ?_
      refine ww_goto X (tgt := 22) dX3_hasPoints_18 (by decide) ?_
      exact ww_sub (lv' := [(0, .ref (ad 2))]) [0] rfl (wX3_hasPoints_b22 X  1 u4 hp)
set_option maxHeartbeats 4000000 in
set_option maxRecDepth 100000 in
theorem kX3_lengthOf (l : Launch) (D : va_G) (ad : Nat → Nat) (cB cI cZ : ClassId) (a1 : Int32) (z : Sg) (post : Int32 → Sg → Prop) (hp : pX3_lengthOf a1 z post) : Ci l D (tyL cB cI cZ) (cW ad cB cI cZ) yX3_lengthOf wsX3_lengthOf rmX3_lengthOf [.ref (ad 2), .int a1] z post := by
  refine Ci.of (cc := cX3_lengthOf) (maxL := 2) (ret := (some .int)) (by decide) rfl (Nat.le_of_ble_eq_true rfl) ?_
  intro p e s m args below meth c A X
  have X : Cx p s m args meth c cX3_lengthOf 2 (some .int) RX3 wsX3_lengthOf D (tyL cB cI cZ) A := X
  show WW p l e rmX3_lengthOf s m args below meth c 2 D A (cW ad cB cI cZ) (QI below args s D (tyL cB cI cZ) (cW ad cB cI cZ) A post) z 0 [(0, .ref (ad 2)), (1, .int a1)] []
  unfold pX3_lengthOf at hp
  refine ww_aload_n X dX3_lengthOf_0 0 rfl ?_
  refine ww_get X in_X3_lengthOf_X3 2 cg_2 rfl 1 (by decide) (X.wd 1 rfl) (v := .ref (ad 6)) rfl dX3_lengthOf_1 ?_
  refine ww_aload_n X dX3_lengthOf_4 0 rfl ?_
  refine ww_iconst X (v := 0) dX3_lengthOf_5 (by decide) ?_
  refine ww_iload_n X dX3_lengthOf_6 1 rfl ?_
  refine ww_callV_i X (As := [.int 0, .int a1]) (rest := [.ref (ad 6)]) (kX3_countingOf l D ad cB cI cZ 0 a1 z _ hp) (cwV 2 X.hts gX3_lengthOf_X3_countingOf rfl rfl rfl hd_X3_countingOf ⟨Nat.le_of_ble_eq_true rfl, Nat.le_of_ble_eq_true rfl⟩) 2 3 cg_2 rfl rfl rfl rfl (Nat.le_of_ble_eq_true rfl) dX3_lengthOf_7 (fun r2 u1 hp => ?_)
  refine ww_iconst X (v := 0) dX3_lengthOf_10 (by decide) ?_
  refine ww_callN_i X (As := [.int r2, .int 0]) (rest := []) (kX1_value l D ad cB cI cZ r2 0 u1 _ hp) (⟨va_cnB 2 X.hts gX3_lengthOf_X1_value_n52 rfl rfl rfl (X.hE.2 _ (List.mem_of_getElem? (i := 43) rfl)) (X.wd 9 rfl) hn_X1_value ⟨Nat.le_of_ble_eq_true rfl, Nat.le_of_ble_eq_true rfl⟩, (X.wd 8 rfl), (X.wd 10 rfl)⟩) 6 1 cg_6 rfl rfl rfl rfl (Nat.le_of_ble_eq_true rfl) dX3_lengthOf_11 (fun r4 u3 hp => ?_)
  exact ww_iret X hp dX3_lengthOf_14
set_option maxHeartbeats 4000000 in
set_option maxRecDepth 100000 in
theorem wX3_gateOf_b57 {p : Program} {l : Launch} {e : Env} {s : State} {m : MethodId} {args : Array Value} {below : List Frame} {meth : Method} {c : Code} {D : va_G} {A : Nat → Prop} {ad : Nat → Nat} {cB cI cZ : ClassId} {post : Int32 → Sg → Prop}  (X : Cx p s m args meth c cX3_gateOf 3 (some .int) RX3 wsX3_gateOf D (tyL cB cI cZ) A)  (x1 : Int32) (z : Sg) (hp : pX3_gateOf_b57  post x1 z) : WW p l e rmX3_gateOf s m args below meth c 3 D A (cW ad cB cI cZ) (QI below args s D (tyL cB cI cZ) (cW ad cB cI cZ) A post) z 57 [(0, .ref (ad 2)), (1, .int x1)] [] := by
  unfold pX3_gateOf_b57 at hp
  refine ww_iconst X (v := 2) dX3_gateOf_57 (by decide) ?_
  refine ww_aload_n X dX3_gateOf_58 0 rfl ?_
  refine ww_get X in_X3_gateOf_X3 2 cg_2 rfl 0 (by decide) (X.wd 2 rfl) (v := .ref (ad 3)) rfl dX3_gateOf_59 ?_
  refine ww_iconst X (v := 3) dX3_gateOf_62 (by decide) ?_
  refine ww_callN_i X (As := [.int 3]) (rest := [.int 2]) (kX2_number l D ad cB cI cZ 3 z _ hp) (⟨va_cnB 1 X.hts gX3_gateOf_X2_number_n69 rfl rfl rfl (X.hE.2 _ (List.mem_of_getElem? (i := 44) rfl)) (X.wd 10 rfl) hn_X2_number ⟨Nat.le_of_ble_eq_true rfl, Nat.le_of_ble_eq_true rfl⟩, (X.wd 9 rfl), (X.wd 11 rfl)⟩) 3 2 cg_3 rfl rfl rfl rfl (Nat.le_of_ble_eq_true rfl) dX3_gateOf_63 (fun r2 u1 hp => ?_)
  refine ww_imul X dX3_gateOf_66 ?_
  refine ww_aload_n X dX3_gateOf_67 0 rfl ?_
  refine ww_get X in_X3_gateOf_X3 2 cg_2 rfl 3 (by decide) (X.wd 3 rfl) (v := .int (u1.1 5)) rfl dX3_gateOf_68 ?_
  refine ww_aload_n X dX3_gateOf_71 0 rfl ?_
  refine ww_get X in_X3_gateOf_X3 2 cg_2 rfl 1 (by decide) (X.wd 1 rfl) (v := .ref (ad 6)) rfl dX3_gateOf_72 ?_
  refine ww_iload_n X dX3_gateOf_75 1 rfl ?_
  refine ww_iconst X (v := 1) dX3_gateOf_76 (by decide) ?_
  refine ww_callN_i X (As := [.int x1, .int 1]) (rest := [.int (u1.1 5), .int (2 * r2)]) (kX1_value l D ad cB cI cZ x1 1 u1 _ hp) (⟨va_cnB 2 X.hts gX3_gateOf_X1_value_n52 rfl rfl rfl (X.hE.2 _ (List.mem_of_getElem? (i := 43) rfl)) (X.wd 5 rfl) hn_X1_value ⟨Nat.le_of_ble_eq_true rfl, Nat.le_of_ble_eq_true rfl⟩, (X.wd 4 rfl), (X.wd 6 rfl)⟩) 6 1 cg_6 rfl rfl rfl rfl (Nat.le_of_ble_eq_true rfl) dX3_gateOf_77 (fun r4 u3 hp => ?_)
  refine ww_isub X dX3_gateOf_80 ?_
  refine ww_imul X dX3_gateOf_81 ?_
  exact ww_iret X hp dX3_gateOf_82
set_option maxHeartbeats 4000000 in
set_option maxRecDepth 100000 in
theorem wX3_gateOf_b18 {p : Program} {l : Launch} {e : Env} {s : State} {m : MethodId} {args : Array Value} {below : List Frame} {meth : Method} {c : Code} {D : va_G} {A : Nat → Prop} {ad : Nat → Nat} {cB cI cZ : ClassId} {post : Int32 → Sg → Prop}  (X : Cx p s m args meth c cX3_gateOf 3 (some .int) RX3 wsX3_gateOf D (tyL cB cI cZ) A)  (x1 y0 : Int32) (z : Sg) (hp : pX3_gateOf_b18  post x1 y0 z) : WW p l e rmX3_gateOf s m args below meth c 3 D A (cW ad cB cI cZ) (QI below args s D (tyL cB cI cZ) (cW ad cB cI cZ) A post) z 18 [(0, .ref (ad 2)), (1, .int x1)] [.int y0] := by
  unfold pX3_gateOf_b18 at hp
  refine ww_istore_n X (lv' := [(2, .int y0), (0, .ref (ad 2)), (1, .int x1)]) dX3_gateOf_18 (by decide) rfl ?_
  refine ww_iload_n X dX3_gateOf_19 0 rfl ?_
  refine ww_if_eq X (tgt := 57) dX3_gateOf_20 (by decide) (fun h1 => ?_) (fun h1 => ?_)
  · have hp := hp.1 h1
    exact ww_sub (lv' := [(0, .ref (ad 2)), (1, .int x1)]) [1, 2] rfl (wX3_gateOf_b57 X  x1 z hp)
  · have hp := hp.2 h1
    refine ww_bipush X (v := 100) dX3_gateOf_23 (by decide) ?_
    refine ww_aload_n X dX3_gateOf_25 1 rfl ?_
    refine ww_get X in_X3_gateOf_X3 2 cg_2 rfl 1 (by decide) (X.wd 1 rfl) (v := .ref (ad 6)) rfl dX3_gateOf_26 ?_
    refine ww_iload_n X dX3_gateOf_29 2 rfl ?_
    refine ww_iconst X (v := 0) dX3_gateOf_30 (by decide) ?_
    refine ww_callN_i X (As := [.int x1, .int 0]) (rest := [.int 100]) (kX1_value l D ad cB cI cZ x1 0 z _ hp) (⟨va_cnB 2 X.hts gX3_gateOf_X1_value_n52 rfl rfl rfl (X.hE.2 _ (List.mem_of_getElem? (i := 43) rfl)) (X.wd 5 rfl) hn_X1_value ⟨Nat.le_of_ble_eq_true rfl, Nat.le_of_ble_eq_true rfl⟩, (X.wd 4 rfl), (X.wd 6 rfl)⟩) 6 1 cg_6 rfl rfl rfl rfl (Nat.le_of_ble_eq_true rfl) dX3_gateOf_31 (fun r3 u2 hp => ?_)
    refine ww_imul X dX3_gateOf_34 ?_
    refine ww_aload_n X dX3_gateOf_35 1 rfl ?_
    refine ww_get X in_X3_gateOf_X3 2 cg_2 rfl 0 (by decide) (X.wd 2 rfl) (v := .ref (ad 3)) rfl dX3_gateOf_36 ?_
    refine ww_iconst X (v := 4) dX3_gateOf_39 (by decide) ?_
    refine ww_callN_i X (As := [.int 4]) (rest := [.int (100 * r3)]) (kX2_number l D ad cB cI cZ 4 u2 _ hp) (⟨va_cnB 1 X.hts gX3_gateOf_X2_number_n69 rfl rfl rfl (X.hE.2 _ (List.mem_of_getElem? (i := 44) rfl)) (X.wd 10 rfl) hn_X2_number ⟨Nat.le_of_ble_eq_true rfl, Nat.le_of_ble_eq_true rfl⟩, (X.wd 9 rfl), (X.wd 11 rfl)⟩) 3 2 cg_3 rfl rfl rfl rfl (Nat.le_of_ble_eq_true rfl) dX3_gateOf_40 (fun r5 u4 hp => ?_)
    refine ww_aload_n X dX3_gateOf_43 1 rfl ?_
    refine ww_get X in_X3_gateOf_X3 2 cg_2 rfl 0 (by decide) (X.wd 2 rfl) (v := .ref (ad 3)) rfl dX3_gateOf_44 ?_
    refine ww_iconst X (v := 0) dX3_gateOf_47 (by decide) ?_
    refine ww_callN_i X (As := [.int 0]) (rest := [.int r5, .int (100 * r3)]) (kX2_number l D ad cB cI cZ 0 u4 _ hp) (⟨va_cnB 1 X.hts gX3_gateOf_X2_number_n69 rfl rfl rfl (X.hE.2 _ (List.mem_of_getElem? (i := 44) rfl)) (X.wd 10 rfl) hn_X2_number ⟨Nat.le_of_ble_eq_true rfl, Nat.le_of_ble_eq_true rfl⟩, (X.wd 9 rfl), (X.wd 11 rfl)⟩) 3 2 cg_3 rfl rfl rfl rfl (Nat.le_of_ble_eq_true rfl) dX3_gateOf_48 (fun r7 u6 hp => ?_)
    refine ww_imul X dX3_gateOf_51 ?_
    refine ww_icmp_ge X (tgt := 57) dX3_gateOf_52 (by decide) (fun h8 => ?_) (fun h8 => ?_)
    · have hp := hp.1 h8
      exact ww_sub (lv' := [(0, .ref (ad 2)), (1, .int x1)]) [1, 2] rfl (wX3_gateOf_b57 X  x1 u6 hp)
    · have hp := hp.2 h8
      refine ww_iconst X (v := 0) dX3_gateOf_55 (by decide) ?_
      exact ww_iret X hp dX3_gateOf_56
set_option maxHeartbeats 4000000 in
set_option maxRecDepth 100000 in
theorem kX3_gateOf (l : Launch) (D : va_G) (ad : Nat → Nat) (cB cI cZ : ClassId) (a1 : Int32) (z : Sg) (post : Int32 → Sg → Prop) (hp : pX3_gateOf a1 z post) : Ci l D (tyL cB cI cZ) (cW ad cB cI cZ) yX3_gateOf wsX3_gateOf rmX3_gateOf [.ref (ad 2), .int a1] z post := by
  refine Ci.of (cc := cX3_gateOf) (maxL := 3) (ret := (some .int)) (by decide) rfl (Nat.le_of_ble_eq_true rfl) ?_
  intro p e s m args below meth c A X
  have X : Cx p s m args meth c cX3_gateOf 3 (some .int) RX3 wsX3_gateOf D (tyL cB cI cZ) A := X
  show WW p l e rmX3_gateOf s m args below meth c 3 D A (cW ad cB cI cZ) (QI below args s D (tyL cB cI cZ) (cW ad cB cI cZ) A post) z 0 [(0, .ref (ad 2)), (1, .int a1)] []
  unfold pX3_gateOf at hp
  refine ww_aload_n X dX3_gateOf_0 0 rfl ?_
  refine ww_get X in_X3_gateOf_X3 2 cg_2 rfl 1 (by decide) (X.wd 1 rfl) (v := .ref (ad 6)) rfl dX3_gateOf_1 ?_
  refine ww_iload_n X dX3_gateOf_4 1 rfl ?_
  refine ww_iconst X (v := 2) dX3_gateOf_5 (by decide) ?_
  refine ww_callN_i X (As := [.int a1, .int 2]) (rest := []) (kX1_value l D ad cB cI cZ a1 2 z _ hp) (⟨va_cnB 2 X.hts gX3_gateOf_X1_value_n52 rfl rfl rfl (X.hE.2 _ (List.mem_of_getElem? (i := 43) rfl)) (X.wd 5 rfl) hn_X1_value ⟨Nat.le_of_ble_eq_true rfl, Nat.le_of_ble_eq_true rfl⟩, (X.wd 4 rfl), (X.wd 6 rfl)⟩) 6 1 cg_6 rfl rfl rfl rfl (Nat.le_of_ble_eq_true rfl) dX3_gateOf_6 (fun r2 u1 hp => ?_)
  refine ww_iconst X (v := 1) dX3_gateOf_9 (by decide) ?_
  refine ww_icmp_ne X (tgt := 17) dX3_gateOf_10 (by decide) (fun h3 => ?_) (fun h3 => ?_)
  · have hp := hp.1 h3
    refine ww_iconst X (v := 0) dX3_gateOf_17 (by decide) ?_
    exact wX3_gateOf_b18 X  a1 0 u1 hp
  · have hp := hp.2 h3
    refine ww_iconst X (v := 1) dX3_gateOf_13 (by decide) ?_
    refine ww_goto X (tgt := 18) dX3_gateOf_14 (by decide) ?_
    exact wX3_gateOf_b18 X  a1 1 u1 hp
set_option maxHeartbeats 4000000 in
set_option maxRecDepth 100000 in
theorem wX3_rounded_b29 {p : Program} {l : Launch} {e : Env} {s : State} {m : MethodId} {args : Array Value} {below : List Frame} {meth : Method} {c : Code} {D : va_G} {A : Nat → Prop} {ad : Nat → Nat} {cB cI cZ : ClassId} {post : Int32 → Sg → Prop}  (X : Cx p s m args meth c cX3_rounded 3 (some .int) RX3 wsX3_rounded D (tyL cB cI cZ) A)  (y0 : Int32) (z : Sg) (hp : pX3_rounded_b29  post y0 z) : WW p l e rmX3_rounded s m args below meth c 3 D A (cW ad cB cI cZ) (QI below args s D (tyL cB cI cZ) (cW ad cB cI cZ) A post) z 29 [] [.int y0] := by
  unfold pX3_rounded_b29 at hp
  exact ww_iret X hp dX3_rounded_29
set_option maxHeartbeats 4000000 in
set_option maxRecDepth 100000 in
theorem kX3_rounded (l : Launch) (D : va_G) (ad : Nat → Nat) (cB cI cZ : ClassId) (a0 a1 : Int32) (z : Sg) (post : Int32 → Sg → Prop) (hp : pX3_rounded a0 a1 z post) : Ci l D (tyL cB cI cZ) (cW ad cB cI cZ) yX3_rounded wsX3_rounded rmX3_rounded [.int a0, .int a1] z post := by
  refine Ci.of (cc := cX3_rounded) (maxL := 3) (ret := (some .int)) (by decide) rfl (Nat.le_of_ble_eq_true rfl) ?_
  intro p e s m args below meth c A X
  have X : Cx p s m args meth c cX3_rounded 3 (some .int) RX3 wsX3_rounded D (tyL cB cI cZ) A := X
  show WW p l e rmX3_rounded s m args below meth c 3 D A (cW ad cB cI cZ) (QI below args s D (tyL cB cI cZ) (cW ad cB cI cZ) A post) z 0 [(0, .int a0), (1, .int a1)] []
  unfold pX3_rounded at hp
  refine ww_iload_n X dX3_rounded_0 1 rfl ?_
  refine ww_if_gt X (tgt := 6) dX3_rounded_1 (by decide) (fun h1 => ?_) (fun h1 => ?_)
  · have hp := hp.1 h1
    refine ww_iconst X (v := 2) dX3_rounded_6 (by decide) ?_
    refine ww_iload_n X dX3_rounded_7 0 rfl ?_
    refine ww_mabs X (X.wd 1 rfl) (X.wd 2 rfl) (X.wd 3 rfl) (X.wd 4 rfl) (Nat.le_of_ble_eq_true rfl) (Nat.le_of_ble_eq_true rfl) dX3_rounded_8 ?_
    refine ww_imul X dX3_rounded_11 ?_
    refine ww_iload_n X dX3_rounded_12 1 rfl ?_
    refine ww_iadd X dX3_rounded_13 ?_
    refine ww_iconst X (v := 2) dX3_rounded_14 (by decide) ?_
    refine ww_iload_n X dX3_rounded_15 1 rfl ?_
    refine ww_imul X dX3_rounded_16 ?_
    obtain ⟨h2, hp⟩ := hp
    refine ww_idiv X dX3_rounded_17 h2 ?_
    refine ww_top (fun v3 hv3 => ?_)
    have hp := hp v3 hv3
    refine ww_istore_n X (lv' := [(2, .int v3), (0, .int a0), (1, .int a1)]) dX3_rounded_18 (by decide) rfl ?_
    refine ww_iload_n X dX3_rounded_19 1 rfl ?_
    refine ww_if_ge X (tgt := 28) dX3_rounded_20 (by decide) (fun h4 => ?_) (fun h4 => ?_)
    · have hp := hp.1 h4
      refine ww_iload_n X dX3_rounded_28 0 rfl ?_
      exact ww_sub (lv' := []) [] rfl (wX3_rounded_b29 X  v3 z hp)
    · have hp := hp.2 h4
      refine ww_iload_n X dX3_rounded_23 0 rfl ?_
      refine ww_ineg X dX3_rounded_24 ?_
      refine ww_goto X (tgt := 29) dX3_rounded_25 (by decide) ?_
      exact ww_sub (lv' := []) [] rfl (wX3_rounded_b29 X  (-v3) z hp)
  · have hp := hp.2 h1
    refine ww_iconst X (v := 0) dX3_rounded_4 (by decide) ?_
    exact ww_iret X hp dX3_rounded_5
set_option maxHeartbeats 4000000 in
set_option maxRecDepth 100000 in
theorem wX3_meanOf_b66 {p : Program} {l : Launch} {e : Env} {s : State} {m : MethodId} {args : Array Value} {below : List Frame} {meth : Method} {c : Code} {D : va_G} {A : Nat → Prop} {ad : Nat → Nat} {cB cI cZ : ClassId} {post : Int32 → Sg → Prop} {K13 : Int32 → Int32 → Int32 → Int32 → Sg → Prop} (X : Cx p s m args meth c cX3_meanOf 6 (some .int) RX3 wsX3_meanOf D (tyL cB cI cZ) A) (hK13 : ∀ (x1 x2 x3 x4 : Int32) (z : Sg), K13 x1 x2 x3 x4 z → WW p l e rmX3_meanOf s m args below meth c 6 D A (cW ad cB cI cZ) (QI below args s D (tyL cB cI cZ) (cW ad cB cI cZ) A post) z 13 [(0, .ref (ad 2)), (1, .int x1), (2, .int x2), (3, .int x3), (4, .int x4)] []) (x1 x2 x3 x4 : Int32) (z : Sg) (hp : pX3_meanOf_b66 K13 post x1 x2 x3 x4 z) : WW p l e rmX3_meanOf s m args below meth c 6 D A (cW ad cB cI cZ) (QI below args s D (tyL cB cI cZ) (cW ad cB cI cZ) A post) z 66 [(0, .ref (ad 2)), (1, .int x1), (2, .int x2), (3, .int x3), (4, .int x4)] [] := by
  unfold pX3_meanOf_b66 at hp
  refine ww_iinc X (v := (x4 + 1)) (lv' := [(4, .int (x4 + 1)), (0, .ref (ad 2)), (1, .int x1), (2, .int x2), (3, .int x3)]) dX3_meanOf_66 4 rfl rfl (by decide) rfl ?_
  refine ww_goto X (tgt := 13) dX3_meanOf_69 (by decide) ?_
  exact ww_sub (lv' := [(0, .ref (ad 2)), (1, .int x1), (2, .int x2), (3, .int x3), (4, .int (x4 + 1))]) [1, 2, 3, 4, 0] rfl (hK13 x1 x2 x3 (x4 + 1) z hp)
set_option maxHeartbeats 4000000 in
set_option maxRecDepth 100000 in
theorem wX3_meanOf_b13 {p : Program} {l : Launch} {e : Env} {s : State} {m : MethodId} {args : Array Value} {below : List Frame} {meth : Method} {c : Code} {D : va_G} {A : Nat → Prop} {ad : Nat → Nat} {cB cI cZ : ClassId} {post : Int32 → Sg → Prop} {K13 : Int32 → Int32 → Int32 → Int32 → Sg → Prop} (X : Cx p s m args meth c cX3_meanOf 6 (some .int) RX3 wsX3_meanOf D (tyL cB cI cZ) A) (hK13 : ∀ (x1 x2 x3 x4 : Int32) (z : Sg), K13 x1 x2 x3 x4 z → WW p l e rmX3_meanOf s m args below meth c 6 D A (cW ad cB cI cZ) (QI below args s D (tyL cB cI cZ) (cW ad cB cI cZ) A post) z 13 [(0, .ref (ad 2)), (1, .int x1), (2, .int x2), (3, .int x3), (4, .int x4)] []) (x1 x2 x3 x4 : Int32) (z : Sg) (hp : pX3_meanOf_b13 K13 post x1 x2 x3 x4 z) : WW p l e rmX3_meanOf s m args below meth c 6 D A (cW ad cB cI cZ) (QI below args s D (tyL cB cI cZ) (cW ad cB cI cZ) A post) z 13 [(0, .ref (ad 2)), (1, .int x1), (2, .int x2), (3, .int x3), (4, .int x4)] [] := by
  unfold pX3_meanOf_b13 at hp
  refine ww_iload X dX3_meanOf_13 4 rfl ?_
  refine ww_aload_n X dX3_meanOf_15 0 rfl ?_
  refine ww_get X in_X3_meanOf_X3 2 cg_2 rfl 2 (by decide) (X.wd 1 rfl) (v := .ref (ad 10)) rfl dX3_meanOf_16 ?_
  refine ww_alen X 10 1 cg_10 rfl (v := 5) rfl dX3_meanOf_19 ?_
  refine ww_icmp_ge X (tgt := 72) dX3_meanOf_20 (by decide) (fun h1 => ?_) (fun h1 => ?_)
  · have hp := hp.1 h1
    refine ww_iload_n X dX3_meanOf_72 2 rfl ?_
    refine ww_iload_n X dX3_meanOf_73 3 rfl ?_
    refine ww_callS_i X (As := [.int x2, .int x3]) (rest := []) (kX3_rounded l D ad cB cI cZ x2 x3 z _ hp) (va_cwS 2 X.hts gX3_meanOf_X3_rounded rfl rfl rfl hn_X3_rounded ⟨Nat.le_of_ble_eq_true rfl, Nat.le_of_ble_eq_true rfl⟩) rfl rfl (Nat.le_of_ble_eq_true rfl) dX3_meanOf_74 (fun r3 u2 hp => ?_)
    exact ww_iret X hp dX3_meanOf_77
  · have hp := hp.2 h1
    refine ww_aload_n X dX3_meanOf_23 0 rfl ?_
    refine ww_get X in_X3_meanOf_X3 2 cg_2 rfl 1 (by decide) (X.wd 2 rfl) (v := .ref (ad 6)) rfl dX3_meanOf_24 ?_
    refine ww_iload_n X dX3_meanOf_27 1 rfl ?_
    refine ww_iload X dX3_meanOf_28 4 rfl ?_
    refine ww_callN_i X (As := [.int x1, .int x4]) (rest := []) (kX1_value l D ad cB cI cZ x1 x4 z _ hp) (⟨va_cnB 2 X.hts gX3_meanOf_X1_value_n52 rfl rfl rfl (X.hE.2 _ (List.mem_of_getElem? (i := 43) rfl)) (X.wd 4 rfl) hn_X1_value ⟨Nat.le_of_ble_eq_true rfl, Nat.le_of_ble_eq_true rfl⟩, (X.wd 3 rfl), (X.wd 5 rfl)⟩) 6 1 cg_6 rfl rfl rfl rfl (Nat.le_of_ble_eq_true rfl) dX3_meanOf_30 (fun r5 u4 hp => ?_)
    refine ww_istore X (lv' := [(5, .int r5), (0, .ref (ad 2)), (1, .int x1), (2, .int x2), (3, .int x3), (4, .int x4)]) dX3_meanOf_33 (by decide) rfl ?_
    refine ww_iload X dX3_meanOf_35 0 rfl ?_
    refine ww_sipush X (v := (-10000)) dX3_meanOf_37 (by decide) ?_
    refine ww_icmp_eq X (tgt := 66) dX3_meanOf_40 (by decide) (fun h6 => ?_) (fun h6 => ?_)
    · have hp := hp.1 h6
      exact ww_sub (lv' := [(0, .ref (ad 2)), (1, .int x1), (2, .int x2), (3, .int x3), (4, .int x4)]) [1, 2, 3, 4, 5] rfl (wX3_meanOf_b66 X hK13 x1 x2 x3 x4 u4 hp)
    · have hp := hp.2 h6
      refine ww_iload_n X dX3_meanOf_43 3 rfl ?_
      refine ww_aload_n X dX3_meanOf_44 1 rfl ?_
      refine ww_get X in_X3_meanOf_X3 2 cg_2 rfl 2 (by decide) (X.wd 1 rfl) (v := .ref (ad 10)) rfl dX3_meanOf_45 ?_
      refine ww_iload X dX3_meanOf_48 5 rfl ?_
      obtain ⟨h7, hp⟩ := hp
      refine ww_iald X 10 1 cg_10 rfl (v := (gA u4 6 x4)) h7 rfl dX3_meanOf_50 ?_
      refine ww_iload X dX3_meanOf_51 0 rfl ?_
      refine ww_imul X dX3_meanOf_53 ?_
      refine ww_iadd X dX3_meanOf_54 ?_
      refine ww_top (fun v8 hv8 => ?_)
      have hp := hp v8 hv8
      refine ww_istore_n X (lv' := [(2, .int v8), (5, .int r5), (0, .ref (ad 2)), (1, .int x1), (3, .int x3), (4, .int x4)]) dX3_meanOf_55 (by decide) rfl ?_
      refine ww_iload_n X dX3_meanOf_56 4 rfl ?_
      refine ww_aload_n X dX3_meanOf_57 2 rfl ?_
      refine ww_get X in_X3_meanOf_X3 2 cg_2 rfl 2 (by decide) (X.wd 1 rfl) (v := .ref (ad 10)) rfl dX3_meanOf_58 ?_
      refine ww_iload X dX3_meanOf_61 5 rfl ?_
      obtain ⟨h9, hp⟩ := hp
      refine ww_iald X 10 1 cg_10 rfl (v := (gA u4 6 x4)) h9 rfl dX3_meanOf_63 ?_
      refine ww_iadd X dX3_meanOf_64 ?_
      refine ww_top (fun v10 hv10 => ?_)
      have hp := hp v10 hv10
      refine ww_istore_n X (lv' := [(3, .int v10), (2, .int v8), (5, .int r5), (0, .ref (ad 2)), (1, .int x1), (4, .int x4)]) dX3_meanOf_65 (by decide) rfl ?_
      exact ww_sub (lv' := [(0, .ref (ad 2)), (1, .int x1), (2, .int v8), (3, .int v10), (4, .int x4)]) [3, 4, 1, 0, 5] rfl (wX3_meanOf_b66 X hK13 x1 v8 v10 x4 u4 hp)
set_option maxHeartbeats 4000000 in
set_option maxRecDepth 100000 in
theorem wX3_meanOf_l13 {p : Program} {l : Launch} {e : Env} {s : State} {m : MethodId} {args : Array Value} {below : List Frame} {meth : Method} {c : Code} {D : va_G} {A : Nat → Prop} {ad : Nat → Nat} {cB cI cZ : ClassId} {post : Int32 → Sg → Prop}  (X : Cx p s m args meth c cX3_meanOf 6 (some .int) RX3 wsX3_meanOf D (tyL cB cI cZ) A)  (x1 x2 x3 x4 : Int32) (z : Sg) (hp : pX3_meanOf_l13  post x1 x2 x3 x4 z) : WW p l e rmX3_meanOf s m args below meth c 6 D A (cW ad cB cI cZ) (QI below args s D (tyL cB cI cZ) (cW ad cB cI cZ) A post) z 13 [(0, .ref (ad 2)), (1, .int x1), (2, .int x2), (3, .int x3), (4, .int x4)] [] := by
  have key := lp_walk (F := (fun (K : Int32 × Int32 × Int32 × Int32 → Sg → Prop) (a : Int32 × Int32 × Int32 × Int32) (z : Sg) => pX3_meanOf_b13 (fun (x1 x2 x3 x4 : Int32) z => K (x1, x2, x3, x4) z) post a.1 a.2.1 a.2.2.1 a.2.2.2 z)) (P := fun a z => WW p l e rmX3_meanOf s m args below meth c 6 D A (cW ad cB cI cZ) (QI below args s D (tyL cB cI cZ) (cW ad cB cI cZ) A post) z 13 [(0, .ref (ad 2)), (1, .int a.1), (2, .int a.2.1), (3, .int a.2.2.1), (4, .int a.2.2.2)] []) (fun K hK a z hp => wX3_meanOf_b13 X (fun x1 x2 x3 x4 z h => hK (x1, x2, x3, x4) z h) a.1 a.2.1 a.2.2.1 a.2.2.2 z hp)
  exact key (x1, x2, x3, x4) z hp
set_option maxHeartbeats 4000000 in
set_option maxRecDepth 100000 in
theorem kX3_meanOf (l : Launch) (D : va_G) (ad : Nat → Nat) (cB cI cZ : ClassId) (a1 : Int32) (z : Sg) (post : Int32 → Sg → Prop) (hp : pX3_meanOf a1 z post) : Ci l D (tyL cB cI cZ) (cW ad cB cI cZ) yX3_meanOf wsX3_meanOf rmX3_meanOf [.ref (ad 2), .int a1] z post := by
  refine Ci.of (cc := cX3_meanOf) (maxL := 6) (ret := (some .int)) (by decide) rfl (Nat.le_of_ble_eq_true rfl) ?_
  intro p e s m args below meth c A X
  have X : Cx p s m args meth c cX3_meanOf 6 (some .int) RX3 wsX3_meanOf D (tyL cB cI cZ) A := X
  show WW p l e rmX3_meanOf s m args below meth c 6 D A (cW ad cB cI cZ) (QI below args s D (tyL cB cI cZ) (cW ad cB cI cZ) A post) z 0 [(0, .ref (ad 2)), (1, .int a1)] []
  unfold pX3_meanOf at hp
  refine ww_iload_n X dX3_meanOf_0 1 rfl ?_
  refine ww_if_ge X (tgt := 6) dX3_meanOf_1 (by decide) (fun h1 => ?_) (fun h1 => ?_)
  · have hp := hp.1 h1
    refine ww_iconst X (v := 0) dX3_meanOf_6 (by decide) ?_
    refine ww_istore_n X (lv' := [(2, .int 0), (0, .ref (ad 2)), (1, .int a1)]) dX3_meanOf_7 (by decide) rfl ?_
    refine ww_iconst X (v := 0) dX3_meanOf_8 (by decide) ?_
    refine ww_istore_n X (lv' := [(3, .int 0), (2, .int 0), (0, .ref (ad 2)), (1, .int a1)]) dX3_meanOf_9 (by decide) rfl ?_
    refine ww_iconst X (v := 0) dX3_meanOf_10 (by decide) ?_
    refine ww_istore X (lv' := [(4, .int 0), (3, .int 0), (2, .int 0), (0, .ref (ad 2)), (1, .int a1)]) dX3_meanOf_11 (by decide) rfl ?_
    exact ww_sub (lv' := [(0, .ref (ad 2)), (1, .int a1), (2, .int 0), (3, .int 0), (4, .int 0)]) [3, 4, 2, 1, 0] rfl (wX3_meanOf_l13 X  a1 0 0 0 z hp)
  · have hp := hp.2 h1
    refine ww_iconst X (v := 0) dX3_meanOf_4 (by decide) ?_
    exact ww_iret X hp dX3_meanOf_5
set_option maxHeartbeats 4000000 in
set_option maxRecDepth 100000 in
theorem wX3_styleOf_b17 {p : Program} {l : Launch} {e : Env} {s : State} {m : MethodId} {args : Array Value} {below : List Frame} {meth : Method} {c : Code} {D : va_G} {A : Nat → Prop} {ad : Nat → Nat} {cB cI cZ : ClassId} {post : Int32 → Sg → Prop} {K17 : Int32 → Int32 → Int32 → Int32 → Int32 → Sg → Prop} (X : Cx p s m args meth c cX3_styleOf 7 (some .int) RX3 wsX3_styleOf D (tyL cB cI cZ) A) (hK17 : ∀ (x1 x2 x3 x4 x5 : Int32) (z : Sg), K17 x1 x2 x3 x4 x5 z → WW p l e rmX3_styleOf s m args below meth c 7 D A (cW ad cB cI cZ) (QI below args s D (tyL cB cI cZ) (cW ad cB cI cZ) A post) z 17 [(0, .ref (ad 2)), (1, .int x1), (2, .int x2), (3, .int x3), (4, .int x4), (5, .int x5)] []) (x1 x2 x3 x4 x5 : Int32) (z : Sg) (hp : pX3_styleOf_b17 K17 post x1 x2 x3 x4 x5 z) : WW p l e rmX3_styleOf s m args below meth c 7 D A (cW ad cB cI cZ) (QI below args s D (tyL cB cI cZ) (cW ad cB cI cZ) A post) z 17 [(0, .ref (ad 2)), (1, .int x1), (2, .int x2), (3, .int x3), (4, .int x4), (5, .int x5)] [] := by
  unfold pX3_styleOf_b17 at hp
  refine ww_iload X dX3_styleOf_17 5 rfl ?_
  refine ww_iconst X (v := 5) dX3_styleOf_19 (by decide) ?_
  refine ww_icmp_ge X (tgt := 62) dX3_styleOf_20 (by decide) (fun h1 => ?_) (fun h1 => ?_)
  · have hp := hp.1 h1
    refine ww_bipush X (v := 10) dX3_styleOf_62 (by decide) ?_
    refine ww_iload_n X dX3_styleOf_64 2 rfl ?_
    refine ww_iload_n X dX3_styleOf_65 3 rfl ?_
    refine ww_isub X dX3_styleOf_66 ?_
    refine ww_iload X dX3_styleOf_67 4 rfl ?_
    refine ww_isub X dX3_styleOf_69 ?_
    refine ww_imul X dX3_styleOf_70 ?_
    exact ww_iret X hp dX3_styleOf_71
  · have hp := hp.2 h1
    refine ww_aload_n X dX3_styleOf_23 0 rfl ?_
    refine ww_get X in_X3_styleOf_X3 2 cg_2 rfl 1 (by decide) (X.wd 1 rfl) (v := .ref (ad 6)) rfl dX3_styleOf_24 ?_
    refine ww_iload_n X dX3_styleOf_27 1 rfl ?_
    refine ww_iload X dX3_styleOf_28 5 rfl ?_
    refine ww_callN_i X (As := [.int x1, .int x5]) (rest := []) (kX1_value l D ad cB cI cZ x1 x5 z _ hp) (⟨va_cnB 2 X.hts gX3_styleOf_X1_value_n52 rfl rfl rfl (X.hE.2 _ (List.mem_of_getElem? (i := 43) rfl)) (X.wd 10 rfl) hn_X1_value ⟨Nat.le_of_ble_eq_true rfl, Nat.le_of_ble_eq_true rfl⟩, (X.wd 9 rfl), (X.wd 11 rfl)⟩) 6 1 cg_6 rfl rfl rfl rfl (Nat.le_of_ble_eq_true rfl) dX3_styleOf_30 (fun r3 u2 hp => ?_)
    refine ww_istore X (lv' := [(6, .int r3), (0, .ref (ad 2)), (1, .int x1), (2, .int x2), (3, .int x3), (4, .int x4), (5, .int x5)]) dX3_styleOf_33 (by decide) rfl ?_
    refine ww_iload_n X dX3_styleOf_35 3 rfl ?_
    refine ww_iload X dX3_styleOf_36 0 rfl ?_
    refine ww_iadd X dX3_styleOf_38 ?_
    refine ww_top (fun v4 hv4 => ?_)
    have hp := hp v4 hv4
    refine ww_istore_n X (lv' := [(2, .int v4), (6, .int r3), (0, .ref (ad 2)), (1, .int x1), (3, .int x3), (4, .int x4), (5, .int x5)]) dX3_styleOf_39 (by decide) rfl ?_
    refine ww_iload_n X dX3_styleOf_40 4 rfl ?_
    refine ww_iload X dX3_styleOf_41 1 rfl ?_
    refine ww_mmin X (X.wd 2 rfl) (X.wd 3 rfl) (X.wd 4 rfl) (X.wd 5 rfl) (Nat.le_of_ble_eq_true rfl) (Nat.le_of_ble_eq_true rfl) dX3_styleOf_43 ?_
    refine ww_top (fun v5 hv5 => ?_)
    have hp := hp v5 hv5
    refine ww_istore_n X (lv' := [(3, .int v5), (2, .int v4), (6, .int r3), (0, .ref (ad 2)), (1, .int x1), (4, .int x4), (5, .int x5)]) dX3_styleOf_46 (by decide) rfl ?_
    refine ww_iload X dX3_styleOf_47 5 rfl ?_
    refine ww_iload X dX3_styleOf_49 2 rfl ?_
    refine ww_mmax X (X.wd 6 rfl) (X.wd 7 rfl) (X.wd 4 rfl) (X.wd 8 rfl) (Nat.le_of_ble_eq_true rfl) (Nat.le_of_ble_eq_true rfl) dX3_styleOf_51 ?_
    refine ww_top (fun v6 hv6 => ?_)
    have hp := hp v6 hv6
    refine ww_istore X (lv' := [(4, .int v6), (3, .int v5), (2, .int v4), (6, .int r3), (0, .ref (ad 2)), (1, .int x1), (5, .int x5)]) dX3_styleOf_54 (by decide) rfl ?_
    refine ww_iinc X (v := (x5 + 1)) (lv' := [(5, .int (x5 + 1)), (4, .int v6), (3, .int v5), (2, .int v4), (6, .int r3), (0, .ref (ad 2)), (1, .int x1)]) dX3_styleOf_56 6 rfl rfl (by decide) rfl ?_
    refine ww_goto X (tgt := 17) dX3_styleOf_59 (by decide) ?_
    exact ww_sub (lv' := [(0, .ref (ad 2)), (1, .int x1), (2, .int v4), (3, .int v5), (4, .int v6), (5, .int (x5 + 1))]) [5, 6, 3, 2, 1, 0] rfl (hK17 x1 v4 v5 v6 (x5 + 1) u2 hp)
set_option maxHeartbeats 4000000 in
set_option maxRecDepth 100000 in
theorem wX3_styleOf_l17 {p : Program} {l : Launch} {e : Env} {s : State} {m : MethodId} {args : Array Value} {below : List Frame} {meth : Method} {c : Code} {D : va_G} {A : Nat → Prop} {ad : Nat → Nat} {cB cI cZ : ClassId} {post : Int32 → Sg → Prop}  (X : Cx p s m args meth c cX3_styleOf 7 (some .int) RX3 wsX3_styleOf D (tyL cB cI cZ) A)  (x1 x2 x3 x4 x5 : Int32) (z : Sg) (hp : pX3_styleOf_l17  post x1 x2 x3 x4 x5 z) : WW p l e rmX3_styleOf s m args below meth c 7 D A (cW ad cB cI cZ) (QI below args s D (tyL cB cI cZ) (cW ad cB cI cZ) A post) z 17 [(0, .ref (ad 2)), (1, .int x1), (2, .int x2), (3, .int x3), (4, .int x4), (5, .int x5)] [] := by
  have key := lp_walk (F := (fun (K : Int32 × Int32 × Int32 × Int32 × Int32 → Sg → Prop) (a : Int32 × Int32 × Int32 × Int32 × Int32) (z : Sg) => pX3_styleOf_b17 (fun (x1 x2 x3 x4 x5 : Int32) z => K (x1, x2, x3, x4, x5) z) post a.1 a.2.1 a.2.2.1 a.2.2.2.1 a.2.2.2.2 z)) (P := fun a z => WW p l e rmX3_styleOf s m args below meth c 7 D A (cW ad cB cI cZ) (QI below args s D (tyL cB cI cZ) (cW ad cB cI cZ) A post) z 17 [(0, .ref (ad 2)), (1, .int a.1), (2, .int a.2.1), (3, .int a.2.2.1), (4, .int a.2.2.2.1), (5, .int a.2.2.2.2)] []) (fun K hK a z hp => wX3_styleOf_b17 X (fun x1 x2 x3 x4 x5 z h => hK (x1, x2, x3, x4, x5) z h) a.1 a.2.1 a.2.2.1 a.2.2.2.1 a.2.2.2.2 z hp)
  exact key (x1, x2, x3, x4, x5) z hp
set_option maxHeartbeats 4000000 in
set_option maxRecDepth 100000 in
theorem kX3_styleOf (l : Launch) (D : va_G) (ad : Nat → Nat) (cB cI cZ : ClassId) (a1 : Int32) (z : Sg) (post : Int32 → Sg → Prop) (hp : pX3_styleOf a1 z post) : Ci l D (tyL cB cI cZ) (cW ad cB cI cZ) yX3_styleOf wsX3_styleOf rmX3_styleOf [.ref (ad 2), .int a1] z post := by
  refine Ci.of (cc := cX3_styleOf) (maxL := 7) (ret := (some .int)) (by decide) rfl (Nat.le_of_ble_eq_true rfl) ?_
  intro p e s m args below meth c A X
  have X : Cx p s m args meth c cX3_styleOf 7 (some .int) RX3 wsX3_styleOf D (tyL cB cI cZ) A := X
  show WW p l e rmX3_styleOf s m args below meth c 7 D A (cW ad cB cI cZ) (QI below args s D (tyL cB cI cZ) (cW ad cB cI cZ) A post) z 0 [(0, .ref (ad 2)), (1, .int a1)] []
  unfold pX3_styleOf at hp
  refine ww_iload_n X dX3_styleOf_0 1 rfl ?_
  refine ww_if_ge X (tgt := 6) dX3_styleOf_1 (by decide) (fun h1 => ?_) (fun h1 => ?_)
  · have hp := hp.1 h1
    refine ww_iconst X (v := 0) dX3_styleOf_6 (by decide) ?_
    refine ww_istore_n X (lv' := [(2, .int 0), (0, .ref (ad 2)), (1, .int a1)]) dX3_styleOf_7 (by decide) rfl ?_
    refine ww_bipush X (v := 40) dX3_styleOf_8 (by decide) ?_
    refine ww_istore_n X (lv' := [(3, .int 40), (2, .int 0), (0, .ref (ad 2)), (1, .int a1)]) dX3_styleOf_10 (by decide) rfl ?_
    refine ww_iconst X (v := 0) dX3_styleOf_11 (by decide) ?_
    refine ww_istore X (lv' := [(4, .int 0), (3, .int 40), (2, .int 0), (0, .ref (ad 2)), (1, .int a1)]) dX3_styleOf_12 (by decide) rfl ?_
    refine ww_iconst X (v := 0) dX3_styleOf_14 (by decide) ?_
    refine ww_istore X (lv' := [(5, .int 0), (4, .int 0), (3, .int 40), (2, .int 0), (0, .ref (ad 2)), (1, .int a1)]) dX3_styleOf_15 (by decide) rfl ?_
    exact ww_sub (lv' := [(0, .ref (ad 2)), (1, .int a1), (2, .int 0), (3, .int 40), (4, .int 0), (5, .int 0)]) [4, 5, 3, 2, 1, 0] rfl (wX3_styleOf_l17 X  a1 0 40 0 0 z hp)
  · have hp := hp.2 h1
    refine ww_iconst X (v := 0) dX3_styleOf_4 (by decide) ?_
    exact ww_iret X hp dX3_styleOf_5
set_option maxHeartbeats 4000000 in
set_option maxRecDepth 100000 in
theorem kX3_measure (l : Launch) (D : va_G) (ad : Nat → Nat) (cB cI cZ : ClassId) (a1 : Int32) (z : Sg) (post : Int32 → Sg → Prop) (hp : pX3_measure a1 z post) : Ci l D (tyL cB cI cZ) (cW ad cB cI cZ) yX3_measure wsX3_measure rmX3_measure [.ref (ad 2), .int a1] z post := by
  refine Ci.of (cc := cX3_measure) (maxL := 3) (ret := (some .boolean)) (by decide) rfl (Nat.le_of_ble_eq_true rfl) ?_
  intro p e s m args below meth c A X
  have X : Cx p s m args meth c cX3_measure 3 (some .boolean) RX3 wsX3_measure D (tyL cB cI cZ) A := X
  show WW p l e rmX3_measure s m args below meth c 3 D A (cW ad cB cI cZ) (QI below args s D (tyL cB cI cZ) (cW ad cB cI cZ) A post) z 0 [(0, .ref (ad 2)), (1, .int a1)] []
  unfold pX3_measure at hp
  refine ww_aload_n X dX3_measure_0 0 rfl ?_
  refine ww_aload_n X dX3_measure_1 0 rfl ?_
  refine ww_aload_n X dX3_measure_2 0 rfl ?_
  refine ww_iconst X (v := 1) dX3_measure_3 (by decide) ?_
  refine ww_iload_n X dX3_measure_4 1 rfl ?_
  refine ww_callV_i X (As := [.int 1, .int a1]) (rest := [.ref (ad 2), .ref (ad 2)]) (kX3_countingOf l D ad cB cI cZ 1 a1 z _ hp) (cwV 2 X.hts gX3_measure_X3_countingOf rfl rfl rfl hd_X3_countingOf ⟨Nat.le_of_ble_eq_true rfl, Nat.le_of_ble_eq_true rfl⟩) 2 3 cg_2 rfl rfl rfl rfl (Nat.le_of_ble_eq_true rfl) dX3_measure_5 (fun r2 u1 hp => ?_)
  refine ww_callV_i X (As := [.int r2]) (rest := [.ref (ad 2)]) (kX3_meanOf l D ad cB cI cZ r2 u1 _ hp) (cwV 1 X.hts gX3_measure_X3_meanOf rfl rfl rfl hd_X3_meanOf ⟨Nat.le_of_ble_eq_true rfl, Nat.le_of_ble_eq_true rfl⟩) 2 3 cg_2 rfl rfl rfl rfl (Nat.le_of_ble_eq_true rfl) dX3_measure_8 (fun r4 u3 hp => ?_)
  refine ww_put X in_X3_measure_X3 tyX3 tyX3_ok nmX3 2 cg_2 rfl 9 (by decide) (X.wd 1 rfl) rfl pd_X3_9 (Nat.le_of_ble_eq_true rfl) (sg' := (sS u3 10 r4)) cs_10 dX3_measure_11 ?_
  refine ww_aload_n X dX3_measure_14 0 rfl ?_
  refine ww_iload_n X dX3_measure_15 1 rfl ?_
  refine ww_callV_i X (As := [.int a1]) (rest := []) (kX3_hasPoints l D ad cB cI cZ a1 (sS u3 10 r4) _ hp) (cwV 1 X.hts gX3_measure_X3_hasPoints rfl rfl rfl hd_X3_hasPoints ⟨Nat.le_of_ble_eq_true rfl, Nat.le_of_ble_eq_true rfl⟩) 2 3 cg_2 rfl rfl rfl rfl (Nat.le_of_ble_eq_true rfl) dX3_measure_16 (fun r6 u5 hp => ?_)
  refine ww_if_ne X (tgt := 24) dX3_measure_19 (by decide) (fun h7 => ?_) (fun h7 => ?_)
  · have hp := hp.1 h7
    refine ww_aload_n X dX3_measure_24 0 rfl ?_
    refine ww_iconst X (v := 0) dX3_measure_25 (by decide) ?_
    refine ww_iload_n X dX3_measure_26 1 rfl ?_
    refine ww_callV_i X (As := [.int 0, .int a1]) (rest := []) (kX3_countingOf l D ad cB cI cZ 0 a1 u5 _ hp) (cwV 2 X.hts gX3_measure_X3_countingOf rfl rfl rfl hd_X3_countingOf ⟨Nat.le_of_ble_eq_true rfl, Nat.le_of_ble_eq_true rfl⟩) 2 3 cg_2 rfl rfl rfl rfl (Nat.le_of_ble_eq_true rfl) dX3_measure_27 (fun r9 u8 hp => ?_)
    refine ww_istore_n X (lv' := [(2, .int r9), (0, .ref (ad 2)), (1, .int a1)]) dX3_measure_30 (by decide) rfl ?_
    refine ww_aload_n X dX3_measure_31 1 rfl ?_
    refine ww_sipush X (v := 1200) dX3_measure_32 (by decide) ?_
    refine ww_aload_n X dX3_measure_35 1 rfl ?_
    refine ww_get X in_X3_measure_X3 2 cg_2 rfl 0 (by decide) (X.wd 2 rfl) (v := .ref (ad 3)) rfl dX3_measure_36 ?_
    refine ww_iconst X (v := 1) dX3_measure_39 (by decide) ?_
    refine ww_callN_i X (As := [.int 1]) (rest := [.int 1200, .ref (ad 2)]) (kX2_number l D ad cB cI cZ 1 u8 _ hp) (⟨va_cnB 1 X.hts gX3_measure_X2_number_n69 rfl rfl rfl (X.hE.2 _ (List.mem_of_getElem? (i := 44) rfl)) (X.wd 40 rfl) hn_X2_number ⟨Nat.le_of_ble_eq_true rfl, Nat.le_of_ble_eq_true rfl⟩, (X.wd 39 rfl), (X.wd 41 rfl)⟩) 3 2 cg_3 rfl rfl rfl rfl (Nat.le_of_ble_eq_true rfl) dX3_measure_40 (fun r11 u10 hp => ?_)
    refine ww_aload_n X dX3_measure_43 1 rfl ?_
    refine ww_get X in_X3_measure_X3 2 cg_2 rfl 1 (by decide) (X.wd 3 rfl) (v := .ref (ad 6)) rfl dX3_measure_44 ?_
    refine ww_iload_n X dX3_measure_47 0 rfl ?_
    refine ww_iconst X (v := 0) dX3_measure_48 (by decide) ?_
    refine ww_callN_i X (As := [.int r9, .int 0]) (rest := [.int r11, .int 1200, .ref (ad 2)]) (kX1_value l D ad cB cI cZ r9 0 u10 _ hp) (⟨va_cnB 2 X.hts gX3_measure_X1_value_n52 rfl rfl rfl (X.hE.2 _ (List.mem_of_getElem? (i := 43) rfl)) (X.wd 20 rfl) hn_X1_value ⟨Nat.le_of_ble_eq_true rfl, Nat.le_of_ble_eq_true rfl⟩, (X.wd 19 rfl), (X.wd 21 rfl)⟩) 6 1 cg_6 rfl rfl rfl rfl (Nat.le_of_ble_eq_true rfl) dX3_measure_49 (fun r13 u12 hp => ?_)
    refine ww_aload_n X dX3_measure_52 1 rfl ?_
    refine ww_get X in_X3_measure_X3 2 cg_2 rfl 0 (by decide) (X.wd 2 rfl) (v := .ref (ad 3)) rfl dX3_measure_53 ?_
    refine ww_iconst X (v := 0) dX3_measure_56 (by decide) ?_
    refine ww_callN_i X (As := [.int 0]) (rest := [.int r13, .int r11, .int 1200, .ref (ad 2)]) (kX2_number l D ad cB cI cZ 0 u12 _ hp) (⟨va_cnB 1 X.hts gX3_measure_X2_number_n69 rfl rfl rfl (X.hE.2 _ (List.mem_of_getElem? (i := 44) rfl)) (X.wd 40 rfl) hn_X2_number ⟨Nat.le_of_ble_eq_true rfl, Nat.le_of_ble_eq_true rfl⟩, (X.wd 39 rfl), (X.wd 41 rfl)⟩) 3 2 cg_3 rfl rfl rfl rfl (Nat.le_of_ble_eq_true rfl) dX3_measure_57 (fun r15 u14 hp => ?_)
    refine ww_isub X dX3_measure_60 ?_
    refine ww_imul X dX3_measure_61 ?_
    refine ww_iadd X dX3_measure_62 ?_
    refine ww_top (fun v16 hv16 => ?_)
    have hp := hp v16 hv16
    refine ww_put X in_X3_measure_X3 tyX3 tyX3_ok nmX3 2 cg_2 rfl 5 (by decide) (X.wd 4 rfl) rfl pd_X3_5 (Nat.le_of_ble_eq_true rfl) (sg' := (sS u14 6 v16)) cs_6 dX3_measure_63 ?_
    refine ww_aload_n X dX3_measure_66 1 rfl ?_
    refine ww_aload_n X dX3_measure_67 1 rfl ?_
    refine ww_aload_n X dX3_measure_68 1 rfl ?_
    refine ww_iconst X (v := 2) dX3_measure_69 (by decide) ?_
    refine ww_iload_n X dX3_measure_70 2 rfl ?_
    refine ww_callV_i X (As := [.int 2, .int a1]) (rest := [.ref (ad 2), .ref (ad 2)]) (kX3_countingOf l D ad cB cI cZ 2 a1 (sS u14 6 v16) _ hp) (cwV 2 X.hts gX3_measure_X3_countingOf rfl rfl rfl hd_X3_countingOf ⟨Nat.le_of_ble_eq_true rfl, Nat.le_of_ble_eq_true rfl⟩) 2 3 cg_2 rfl rfl rfl rfl (Nat.le_of_ble_eq_true rfl) dX3_measure_71 (fun r18 u17 hp => ?_)
    refine ww_callV_i X (As := [.int r18]) (rest := [.ref (ad 2)]) (kX3_styleOf l D ad cB cI cZ r18 u17 _ hp) (cwV 1 X.hts gX3_measure_X3_styleOf rfl rfl rfl hd_X3_styleOf ⟨Nat.le_of_ble_eq_true rfl, Nat.le_of_ble_eq_true rfl⟩) 2 3 cg_2 rfl rfl rfl rfl (Nat.le_of_ble_eq_true rfl) dX3_measure_74 (fun r20 u19 hp => ?_)
    refine ww_put X in_X3_measure_X3 tyX3 tyX3_ok nmX3 2 cg_2 rfl 6 (by decide) (X.wd 5 rfl) rfl pd_X3_6 (Nat.le_of_ble_eq_true rfl) (sg' := (sS u19 7 r20)) cs_7 dX3_measure_77 ?_
    refine ww_aload_n X dX3_measure_80 1 rfl ?_
    refine ww_aload_n X dX3_measure_81 1 rfl ?_
    refine ww_iload_n X dX3_measure_82 0 rfl ?_
    refine ww_callV_i X (As := [.int r9]) (rest := [.ref (ad 2)]) (kX3_gateOf l D ad cB cI cZ r9 (sS u19 7 r20) _ hp) (cwV 1 X.hts gX3_measure_X3_gateOf rfl rfl rfl hd_X3_gateOf ⟨Nat.le_of_ble_eq_true rfl, Nat.le_of_ble_eq_true rfl⟩) 2 3 cg_2 rfl rfl rfl rfl (Nat.le_of_ble_eq_true rfl) dX3_measure_83 (fun r22 u21 hp => ?_)
    refine ww_put X in_X3_measure_X3 tyX3 tyX3_ok nmX3 2 cg_2 rfl 7 (by decide) (X.wd 6 rfl) rfl pd_X3_7 (Nat.le_of_ble_eq_true rfl) (sg' := (sS u21 8 r22)) cs_8 dX3_measure_86 ?_
    refine ww_aload_n X dX3_measure_89 1 rfl ?_
    refine ww_bipush X (v := (-2)) dX3_measure_90 (by decide) ?_
    refine ww_aload_n X dX3_measure_92 1 rfl ?_
    refine ww_get X in_X3_measure_X3 2 cg_2 rfl 9 (by decide) (X.wd 1 rfl) (v := .int (u21.1 10)) rfl dX3_measure_93 ?_
    refine ww_aload_n X dX3_measure_96 1 rfl ?_
    refine ww_get X in_X3_measure_X3 2 cg_2 rfl 0 (by decide) (X.wd 2 rfl) (v := .ref (ad 3)) rfl dX3_measure_97 ?_
    refine ww_iconst X (v := 2) dX3_measure_100 (by decide) ?_
    refine ww_callN_i X (As := [.int 2]) (rest := [.int (u21.1 10), .int (-2), .ref (ad 2)]) (kX2_number l D ad cB cI cZ 2 (sS u21 8 r22) _ hp) (⟨va_cnB 1 X.hts gX3_measure_X2_number_n69 rfl rfl rfl (X.hE.2 _ (List.mem_of_getElem? (i := 44) rfl)) (X.wd 40 rfl) hn_X2_number ⟨Nat.le_of_ble_eq_true rfl, Nat.le_of_ble_eq_true rfl⟩, (X.wd 39 rfl), (X.wd 41 rfl)⟩) 3 2 cg_3 rfl rfl rfl rfl (Nat.le_of_ble_eq_true rfl) dX3_measure_101 (fun r24 u23 hp => ?_)
    refine ww_imul X dX3_measure_104 ?_
    refine ww_bipush X (v := 100) dX3_measure_105 (by decide) ?_
    refine ww_callS_i X (As := [.int ((u21.1 10) * r24), .int 100]) (rest := [.int (-2), .ref (ad 2)]) (kX3_rounded l D ad cB cI cZ ((u21.1 10) * r24) 100 u23 _ hp) (va_cwS 2 X.hts gX3_measure_X3_rounded rfl rfl rfl hn_X3_rounded ⟨Nat.le_of_ble_eq_true rfl, Nat.le_of_ble_eq_true rfl⟩) rfl rfl (Nat.le_of_ble_eq_true rfl) dX3_measure_107 (fun r26 u25 hp => ?_)
    refine ww_imul X dX3_measure_110 ?_
    refine ww_put X in_X3_measure_X3 tyX3 tyX3_ok nmX3 2 cg_2 rfl 8 (by decide) (X.wd 7 rfl) rfl pd_X3_8 (Nat.le_of_ble_eq_true rfl) (sg' := (sS u25 9 ((-2) * r26))) cs_9 dX3_measure_111 ?_
    refine ww_iconst X (v := 1) dX3_measure_114 (by decide) ?_
    exact ww_zret X (Or.inr rfl) hp dX3_measure_115
  · have hp := hp.2 h7
    refine ww_iconst X (v := 0) dX3_measure_22 (by decide) ?_
    exact ww_zret X (Or.inl rfl) hp dX3_measure_23
set_option maxHeartbeats 4000000 in
set_option maxRecDepth 100000 in
theorem kX3_sum (l : Launch) (D : va_G) (ad : Nat → Nat) (cB cI cZ : ClassId) (z : Sg) (post : Int32 → Sg → Prop) (hp : pX3_sum  z post) : Ci l D (tyL cB cI cZ) (cW ad cB cI cZ) yX3_sum wsX3_sum rmX3_sum [.ref (ad 2)] z post := by
  refine Ci.of (cc := cX3_sum) (maxL := 1) (ret := (some .int)) (by decide) rfl (Nat.le_of_ble_eq_true rfl) ?_
  intro p e s m args below meth c A X
  have X : Cx p s m args meth c cX3_sum 1 (some .int) RX3 wsX3_sum D (tyL cB cI cZ) A := X
  show WW p l e rmX3_sum s m args below meth c 1 D A (cW ad cB cI cZ) (QI below args s D (tyL cB cI cZ) (cW ad cB cI cZ) A post) z 0 [(0, .ref (ad 2))] []
  unfold pX3_sum at hp
  refine ww_iconst X (v := 0) dX3_sum_0 (by decide) ?_
  refine ww_aload_n X dX3_sum_1 0 rfl ?_
  refine ww_get X in_X3_sum_X3 2 cg_2 rfl 5 (by decide) (X.wd 1 rfl) (v := .int (z.1 6)) rfl dX3_sum_2 ?_
  refine ww_aload_n X dX3_sum_5 0 rfl ?_
  refine ww_get X in_X3_sum_X3 2 cg_2 rfl 6 (by decide) (X.wd 2 rfl) (v := .int (z.1 7)) rfl dX3_sum_6 ?_
  refine ww_iadd X dX3_sum_9 ?_
  refine ww_aload_n X dX3_sum_10 0 rfl ?_
  refine ww_get X in_X3_sum_X3 2 cg_2 rfl 7 (by decide) (X.wd 3 rfl) (v := .int (z.1 8)) rfl dX3_sum_11 ?_
  refine ww_iadd X dX3_sum_14 ?_
  refine ww_aload_n X dX3_sum_15 0 rfl ?_
  refine ww_get X in_X3_sum_X3 2 cg_2 rfl 8 (by decide) (X.wd 4 rfl) (v := .int (z.1 9)) rfl dX3_sum_16 ?_
  refine ww_iadd X dX3_sum_19 ?_
  refine ww_mmax X (X.wd 5 rfl) (X.wd 6 rfl) (X.wd 7 rfl) (X.wd 8 rfl) (Nat.le_of_ble_eq_true rfl) (Nat.le_of_ble_eq_true rfl) dX3_sum_20 ?_
  exact ww_iret X hp dX3_sum_23
set_option maxHeartbeats 4000000 in
set_option maxRecDepth 100000 in
theorem kX3_worthOf (l : Launch) (D : va_G) (ad : Nat → Nat) (cB cI cZ : ClassId) (a1 : Int32) (z : Sg) (post : Int32 → Sg → Prop) (hp : pX3_worthOf a1 z post) : Ci l D (tyL cB cI cZ) (cW ad cB cI cZ) yX3_worthOf wsX3_worthOf rmX3_worthOf [.ref (ad 2), .int a1] z post := by
  refine Ci.of (cc := cX3_worthOf) (maxL := 2) (ret := (some .int)) (by decide) rfl (Nat.le_of_ble_eq_true rfl) ?_
  intro p e s m args below meth c A X
  have X : Cx p s m args meth c cX3_worthOf 2 (some .int) RX3 wsX3_worthOf D (tyL cB cI cZ) A := X
  show WW p l e rmX3_worthOf s m args below meth c 2 D A (cW ad cB cI cZ) (QI below args s D (tyL cB cI cZ) (cW ad cB cI cZ) A post) z 0 [(0, .ref (ad 2)), (1, .int a1)] []
  unfold pX3_worthOf at hp
  refine ww_aload_n X dX3_worthOf_0 0 rfl ?_
  refine ww_callV_i X (As := []) (rest := []) (kX3_sum l D ad cB cI cZ  z _ hp) (cwV 0 X.hts gX3_worthOf_X3_sum rfl rfl rfl hd_X3_sum ⟨Nat.le_of_ble_eq_true rfl, Nat.le_of_ble_eq_true rfl⟩) 2 3 cg_2 rfl rfl rfl rfl (Nat.le_of_ble_eq_true rfl) dX3_worthOf_1 (fun r2 u1 hp => ?_)
  refine ww_iconst X (v := 0) dX3_worthOf_4 (by decide) ?_
  refine ww_aload_n X dX3_worthOf_5 0 rfl ?_
  refine ww_get X in_X3_worthOf_X3 2 cg_2 rfl 5 (by decide) (X.wd 1 rfl) (v := .int (u1.1 6)) rfl dX3_worthOf_6 ?_
  refine ww_aload_n X dX3_worthOf_9 0 rfl ?_
  refine ww_get X in_X3_worthOf_X3 2 cg_2 rfl 6 (by decide) (X.wd 2 rfl) (v := .int (u1.1 7)) rfl dX3_worthOf_10 ?_
  refine ww_iadd X dX3_worthOf_13 ?_
  refine ww_aload_n X dX3_worthOf_14 0 rfl ?_
  refine ww_get X in_X3_worthOf_X3 2 cg_2 rfl 7 (by decide) (X.wd 3 rfl) (v := .int (u1.1 8)) rfl dX3_worthOf_15 ?_
  refine ww_iadd X dX3_worthOf_18 ?_
  refine ww_aload_n X dX3_worthOf_19 0 rfl ?_
  refine ww_get X in_X3_worthOf_X3 2 cg_2 rfl 8 (by decide) (X.wd 4 rfl) (v := .int (u1.1 9)) rfl dX3_worthOf_20 ?_
  refine ww_iadd X dX3_worthOf_23 ?_
  refine ww_iload_n X dX3_worthOf_24 1 rfl ?_
  refine ww_isub X dX3_worthOf_25 ?_
  refine ww_mmax X (X.wd 5 rfl) (X.wd 6 rfl) (X.wd 7 rfl) (X.wd 8 rfl) (Nat.le_of_ble_eq_true rfl) (Nat.le_of_ble_eq_true rfl) dX3_worthOf_26 ?_
  refine ww_isub X dX3_worthOf_29 ?_
  exact ww_iret X hp dX3_worthOf_30
set_option maxHeartbeats 4000000 in
set_option maxRecDepth 100000 in
theorem wX3_mayBeRecord_b23 {p : Program} {l : Launch} {e : Env} {s : State} {m : MethodId} {args : Array Value} {below : List Frame} {meth : Method} {c : Code} {D : va_G} {A : Nat → Prop} {ad : Nat → Nat} {cB cI cZ : ClassId} {post : Int32 → Sg → Prop} {K23 : Int32 → Int32 → Sg → Prop} (X : Cx p s m args meth c cX3_mayBeRecord 4 (some .boolean) RX3 wsX3_mayBeRecord D (tyL cB cI cZ) A) (hK23 : ∀ (x2 x3 : Int32) (z : Sg), K23 x2 x3 z → WW p l e rmX3_mayBeRecord s m args below meth c 4 D A (cW ad cB cI cZ) (QI below args s D (tyL cB cI cZ) (cW ad cB cI cZ) A post) z 23 [(0, .ref (ad 2)), (2, .int x2), (3, .int x3)] []) (x2 x3 : Int32) (z : Sg) (hp : pX3_mayBeRecord_b23 K23 post x2 x3 z) : WW p l e rmX3_mayBeRecord s m args below meth c 4 D A (cW ad cB cI cZ) (QI below args s D (tyL cB cI cZ) (cW ad cB cI cZ) A post) z 23 [(0, .ref (ad 2)), (2, .int x2), (3, .int x3)] [] := by
  unfold pX3_mayBeRecord_b23 at hp
  refine ww_iload_n X dX3_mayBeRecord_23 2 rfl ?_
  refine ww_iconst X (v := 5) dX3_mayBeRecord_24 (by decide) ?_
  refine ww_icmp_ge X (tgt := 50) dX3_mayBeRecord_25 (by decide) (fun h1 => ?_) (fun h1 => ?_)
  · have hp := hp.1 h1
    refine ww_iconst X (v := 1) dX3_mayBeRecord_50 (by decide) ?_
    exact ww_zret X (Or.inr rfl) hp dX3_mayBeRecord_51
  · have hp := hp.2 h1
    refine ww_aload_n X dX3_mayBeRecord_28 0 rfl ?_
    refine ww_get X in_X3_mayBeRecord_X3 2 cg_2 rfl 1 (by decide) (X.wd 1 rfl) (v := .ref (ad 6)) rfl dX3_mayBeRecord_29 ?_
    refine ww_iload_n X dX3_mayBeRecord_32 1 rfl ?_
    refine ww_iload_n X dX3_mayBeRecord_33 2 rfl ?_
    refine ww_callN_i X (As := [.int x2, .int x3]) (rest := []) (kX1_value l D ad cB cI cZ x2 x3 z _ hp) (⟨va_cnB 2 X.hts gX3_mayBeRecord_X1_value_n52 rfl rfl rfl (X.hE.2 _ (List.mem_of_getElem? (i := 43) rfl)) (X.wd 17 rfl) hn_X1_value ⟨Nat.le_of_ble_eq_true rfl, Nat.le_of_ble_eq_true rfl⟩, (X.wd 16 rfl), (X.wd 18 rfl)⟩) 6 1 cg_6 rfl rfl rfl rfl (Nat.le_of_ble_eq_true rfl) dX3_mayBeRecord_34 (fun r3 u2 hp => ?_)
    refine ww_bipush X (v := 20) dX3_mayBeRecord_37 (by decide) ?_
    refine ww_icmp_ge X (tgt := 44) dX3_mayBeRecord_39 (by decide) (fun h4 => ?_) (fun h4 => ?_)
    · have hp := hp.1 h4
      refine ww_iinc X (v := (x3 + 1)) (lv' := [(3, .int (x3 + 1)), (0, .ref (ad 2)), (2, .int x2)]) dX3_mayBeRecord_44 2 rfl rfl (by decide) rfl ?_
      refine ww_goto X (tgt := 23) dX3_mayBeRecord_47 (by decide) ?_
      exact ww_sub (lv' := [(0, .ref (ad 2)), (2, .int x2), (3, .int (x3 + 1))]) [1, 2, 0] rfl (hK23 x2 (x3 + 1) u2 hp)
    · have hp := hp.2 h4
      refine ww_iconst X (v := 0) dX3_mayBeRecord_42 (by decide) ?_
      exact ww_zret X (Or.inl rfl) hp dX3_mayBeRecord_43
set_option maxHeartbeats 4000000 in
set_option maxRecDepth 100000 in
theorem wX3_mayBeRecord_l23 {p : Program} {l : Launch} {e : Env} {s : State} {m : MethodId} {args : Array Value} {below : List Frame} {meth : Method} {c : Code} {D : va_G} {A : Nat → Prop} {ad : Nat → Nat} {cB cI cZ : ClassId} {post : Int32 → Sg → Prop}  (X : Cx p s m args meth c cX3_mayBeRecord 4 (some .boolean) RX3 wsX3_mayBeRecord D (tyL cB cI cZ) A)  (x2 x3 : Int32) (z : Sg) (hp : pX3_mayBeRecord_l23  post x2 x3 z) : WW p l e rmX3_mayBeRecord s m args below meth c 4 D A (cW ad cB cI cZ) (QI below args s D (tyL cB cI cZ) (cW ad cB cI cZ) A post) z 23 [(0, .ref (ad 2)), (2, .int x2), (3, .int x3)] [] := by
  have key := lp_walk (F := (fun (K : Int32 × Int32 → Sg → Prop) (a : Int32 × Int32) (z : Sg) => pX3_mayBeRecord_b23 (fun (x2 x3 : Int32) z => K (x2, x3) z) post a.1 a.2 z)) (P := fun a z => WW p l e rmX3_mayBeRecord s m args below meth c 4 D A (cW ad cB cI cZ) (QI below args s D (tyL cB cI cZ) (cW ad cB cI cZ) A post) z 23 [(0, .ref (ad 2)), (2, .int a.1), (3, .int a.2)] []) (fun K hK a z hp => wX3_mayBeRecord_b23 X (fun x2 x3 z h => hK (x2, x3) z h) a.1 a.2 z hp)
  exact key (x2, x3) z hp
set_option maxHeartbeats 4000000 in
set_option maxRecDepth 100000 in
theorem wX3_mayBeRecord_b19 {p : Program} {l : Launch} {e : Env} {s : State} {m : MethodId} {args : Array Value} {below : List Frame} {meth : Method} {c : Code} {D : va_G} {A : Nat → Prop} {ad : Nat → Nat} {cB cI cZ : ClassId} {post : Int32 → Sg → Prop}  (X : Cx p s m args meth c cX3_mayBeRecord 4 (some .boolean) RX3 wsX3_mayBeRecord D (tyL cB cI cZ) A)  (z : Sg) (hp : pX3_mayBeRecord_b19  post  z) : WW p l e rmX3_mayBeRecord s m args below meth c 4 D A (cW ad cB cI cZ) (QI below args s D (tyL cB cI cZ) (cW ad cB cI cZ) A post) z 19 [(0, .ref (ad 2))] [] := by
  unfold pX3_mayBeRecord_b19 at hp
  refine ww_iconst X (v := 0) dX3_mayBeRecord_19 (by decide) ?_
  exact ww_zret X (Or.inl rfl) hp dX3_mayBeRecord_20
set_option maxHeartbeats 4000000 in
set_option maxRecDepth 100000 in
theorem kX3_mayBeRecord (l : Launch) (D : va_G) (ad : Nat → Nat) (cB cI cZ : ClassId) (a1 : Int32) (z : Sg) (post : Int32 → Sg → Prop) (hp : pX3_mayBeRecord a1 z post) : Ci l D (tyL cB cI cZ) (cW ad cB cI cZ) yX3_mayBeRecord wsX3_mayBeRecord rmX3_mayBeRecord [.ref (ad 2), .int a1] z post := by
  refine Ci.of (cc := cX3_mayBeRecord) (maxL := 4) (ret := (some .boolean)) (by decide) rfl (Nat.le_of_ble_eq_true rfl) ?_
  intro p e s m args below meth c A X
  have X : Cx p s m args meth c cX3_mayBeRecord 4 (some .boolean) RX3 wsX3_mayBeRecord D (tyL cB cI cZ) A := X
  show WW p l e rmX3_mayBeRecord s m args below meth c 4 D A (cW ad cB cI cZ) (QI below args s D (tyL cB cI cZ) (cW ad cB cI cZ) A post) z 0 [(0, .ref (ad 2)), (1, .int a1)] []
  unfold pX3_mayBeRecord at hp
  refine ww_aload_n X dX3_mayBeRecord_0 0 rfl ?_
  refine ww_iconst X (v := 2) dX3_mayBeRecord_1 (by decide) ?_
  refine ww_iload_n X dX3_mayBeRecord_2 1 rfl ?_
  refine ww_callV_i X (As := [.int 2, .int a1]) (rest := []) (kX3_countingOf l D ad cB cI cZ 2 a1 z _ hp) (cwV 2 X.hts gX3_mayBeRecord_X3_countingOf rfl rfl rfl hd_X3_countingOf ⟨Nat.le_of_ble_eq_true rfl, Nat.le_of_ble_eq_true rfl⟩) 2 3 cg_2 rfl rfl rfl rfl (Nat.le_of_ble_eq_true rfl) dX3_mayBeRecord_3 (fun r2 u1 hp => ?_)
  refine ww_istore_n X (lv' := [(2, .int r2), (0, .ref (ad 2)), (1, .int a1)]) dX3_mayBeRecord_6 (by decide) rfl ?_
  refine ww_iload_n X dX3_mayBeRecord_7 0 rfl ?_
  refine ww_if_lt X (tgt := 19) dX3_mayBeRecord_8 (by decide) (fun h3 => ?_) (fun h3 => ?_)
  · have hp := hp.1 h3
    exact ww_sub (lv' := [(0, .ref (ad 2))]) [1] rfl (wX3_mayBeRecord_b19 X   u1 hp)
  · have hp := hp.2 h3
    refine ww_aload_n X dX3_mayBeRecord_11 1 rfl ?_
    refine ww_iload_n X dX3_mayBeRecord_12 2 rfl ?_
    refine ww_callV_i X (As := [.int a1]) (rest := []) (kX3_hasPoints l D ad cB cI cZ a1 u1 _ hp) (cwV 1 X.hts gX3_mayBeRecord_X3_hasPoints rfl rfl rfl hd_X3_hasPoints ⟨Nat.le_of_ble_eq_true rfl, Nat.le_of_ble_eq_true rfl⟩) 2 3 cg_2 rfl rfl rfl rfl (Nat.le_of_ble_eq_true rfl) dX3_mayBeRecord_13 (fun r5 u4 hp => ?_)
    refine ww_if_ne X (tgt := 21) dX3_mayBeRecord_16 (by decide) (fun h6 => ?_) (fun h6 => ?_)
    · have hp := hp.1 h6
      refine ww_iconst X (v := 0) dX3_mayBeRecord_21 (by decide) ?_
      refine ww_istore_n X (lv' := [(3, .int 0), (2, .int r2), (0, .ref (ad 2)), (1, .int a1)]) dX3_mayBeRecord_22 (by decide) rfl ?_
      exact ww_sub (lv' := [(0, .ref (ad 2)), (2, .int r2), (3, .int 0)]) [2, 1, 0] rfl (wX3_mayBeRecord_l23 X  r2 0 u4 hp)
    · have hp := hp.2 h6
      exact ww_sub (lv' := [(0, .ref (ad 2))]) [1] rfl (wX3_mayBeRecord_b19 X   u4 hp)
set_option maxHeartbeats 4000000 in
set_option maxRecDepth 100000 in
theorem wX3_isLonger_b40 {p : Program} {l : Launch} {e : Env} {s : State} {m : MethodId} {args : Array Value} {below : List Frame} {meth : Method} {c : Code} {D : va_G} {A : Nat → Prop} {ad : Nat → Nat} {cB cI cZ : ClassId} {post : Int32 → Sg → Prop}  (X : Cx p s m args meth c cX3_isLonger 4 (some .boolean) RX3 wsX3_isLonger D (tyL cB cI cZ) A)  (y0 : Int32) (z : Sg) (hp : pX3_isLonger_b40  post y0 z) : WW p l e rmX3_isLonger s m args below meth c 4 D A (cW ad cB cI cZ) (QI below args s D (tyL cB cI cZ) (cW ad cB cI cZ) A post) z 40 [(0, .ref (ad 2))] [.int y0] := by
  unfold pX3_isLonger_b40 at hp
  exact ww_zret X hp.1 hp.2 dX3_isLonger_40
set_option maxHeartbeats 4000000 in
set_option maxRecDepth 100000 in
theorem wX3_isLonger_b39 {p : Program} {l : Launch} {e : Env} {s : State} {m : MethodId} {args : Array Value} {below : List Frame} {meth : Method} {c : Code} {D : va_G} {A : Nat → Prop} {ad : Nat → Nat} {cB cI cZ : ClassId} {post : Int32 → Sg → Prop}  (X : Cx p s m args meth c cX3_isLonger 4 (some .boolean) RX3 wsX3_isLonger D (tyL cB cI cZ) A)  (z : Sg) (hp : pX3_isLonger_b39  post  z) : WW p l e rmX3_isLonger s m args below meth c 4 D A (cW ad cB cI cZ) (QI below args s D (tyL cB cI cZ) (cW ad cB cI cZ) A post) z 39 [(0, .ref (ad 2))] [] := by
  unfold pX3_isLonger_b39 at hp
  refine ww_iconst X (v := 0) dX3_isLonger_39 (by decide) ?_
  exact wX3_isLonger_b40 X  0 z hp
set_option maxHeartbeats 4000000 in
set_option maxRecDepth 100000 in
theorem wX3_isLonger_b35 {p : Program} {l : Launch} {e : Env} {s : State} {m : MethodId} {args : Array Value} {below : List Frame} {meth : Method} {c : Code} {D : va_G} {A : Nat → Prop} {ad : Nat → Nat} {cB cI cZ : ClassId} {post : Int32 → Sg → Prop}  (X : Cx p s m args meth c cX3_isLonger 4 (some .boolean) RX3 wsX3_isLonger D (tyL cB cI cZ) A)  (z : Sg) (hp : pX3_isLonger_b35  post  z) : WW p l e rmX3_isLonger s m args below meth c 4 D A (cW ad cB cI cZ) (QI below args s D (tyL cB cI cZ) (cW ad cB cI cZ) A post) z 35 [(0, .ref (ad 2))] [] := by
  unfold pX3_isLonger_b35 at hp
  refine ww_iconst X (v := 1) dX3_isLonger_35 (by decide) ?_
  refine ww_goto X (tgt := 40) dX3_isLonger_36 (by decide) ?_
  exact wX3_isLonger_b40 X  1 z hp
set_option maxHeartbeats 4000000 in
set_option maxRecDepth 100000 in
theorem kX3_isLonger (l : Launch) (D : va_G) (ad : Nat → Nat) (cB cI cZ : ClassId) (a1 a2 : Int32) (z : Sg) (post : Int32 → Sg → Prop) (hp : pX3_isLonger a1 a2 z post) : Ci l D (tyL cB cI cZ) (cW ad cB cI cZ) yX3_isLonger wsX3_isLonger rmX3_isLonger [.ref (ad 2), .int a1, .int a2] z post := by
  refine Ci.of (cc := cX3_isLonger) (maxL := 4) (ret := (some .boolean)) (by decide) rfl (Nat.le_of_ble_eq_true rfl) ?_
  intro p e s m args below meth c A X
  have X : Cx p s m args meth c cX3_isLonger 4 (some .boolean) RX3 wsX3_isLonger D (tyL cB cI cZ) A := X
  show WW p l e rmX3_isLonger s m args below meth c 4 D A (cW ad cB cI cZ) (QI below args s D (tyL cB cI cZ) (cW ad cB cI cZ) A post) z 0 [(0, .ref (ad 2)), (1, .int a1), (2, .int a2)] []
  unfold pX3_isLonger at hp
  refine ww_aload_n X dX3_isLonger_0 0 rfl ?_
  refine ww_iload_n X dX3_isLonger_1 1 rfl ?_
  refine ww_callV_i X (As := [.int a1]) (rest := []) (kX3_lengthOf l D ad cB cI cZ a1 z _ hp) (cwV 1 X.hts gX3_isLonger_X3_lengthOf rfl rfl rfl hd_X3_lengthOf ⟨Nat.le_of_ble_eq_true rfl, Nat.le_of_ble_eq_true rfl⟩) 2 3 cg_2 rfl rfl rfl rfl (Nat.le_of_ble_eq_true rfl) dX3_isLonger_2 (fun r2 u1 hp => ?_)
  refine ww_aload_n X dX3_isLonger_5 0 rfl ?_
  refine ww_iload_n X dX3_isLonger_6 2 rfl ?_
  refine ww_callV_i X (As := [.int a2]) (rest := [.int r2]) (kX3_lengthOf l D ad cB cI cZ a2 u1 _ hp) (cwV 1 X.hts gX3_isLonger_X3_lengthOf rfl rfl rfl hd_X3_lengthOf ⟨Nat.le_of_ble_eq_true rfl, Nat.le_of_ble_eq_true rfl⟩) 2 3 cg_2 rfl rfl rfl rfl (Nat.le_of_ble_eq_true rfl) dX3_isLonger_7 (fun r4 u3 hp => ?_)
  refine ww_isub X dX3_isLonger_10 ?_
  refine ww_top (fun v5 hv5 => ?_)
  have hp := hp v5 hv5
  refine ww_istore_n X (lv' := [(3, .int v5), (0, .ref (ad 2)), (1, .int a1), (2, .int a2)]) dX3_isLonger_11 (by decide) rfl ?_
  refine ww_iload_n X dX3_isLonger_12 0 rfl ?_
  refine ww_if_gt X (tgt := 35) dX3_isLonger_13 (by decide) (fun h6 => ?_) (fun h6 => ?_)
  · have hp := hp.1 h6
    exact ww_sub (lv' := [(0, .ref (ad 2))]) [1] rfl (wX3_isLonger_b35 X   u3 hp)
  · have hp := hp.2 h6
    refine ww_iload_n X dX3_isLonger_16 0 rfl ?_
    refine ww_if_ne X (tgt := 39) dX3_isLonger_17 (by decide) (fun h7 => ?_) (fun h7 => ?_)
    · have hp := hp.1 h7
      exact ww_sub (lv' := [(0, .ref (ad 2))]) [1] rfl (wX3_isLonger_b39 X   u3 hp)
    · have hp := hp.2 h7
      refine ww_aload_n X dX3_isLonger_20 1 rfl ?_
      refine ww_iconst X (v := 0) dX3_isLonger_21 (by decide) ?_
      refine ww_iload_n X dX3_isLonger_22 2 rfl ?_
      refine ww_callV_i X (As := [.int 0, .int a1]) (rest := []) (kX3_countingOf l D ad cB cI cZ 0 a1 u3 _ hp) (cwV 2 X.hts gX3_isLonger_X3_countingOf rfl rfl rfl hd_X3_countingOf ⟨Nat.le_of_ble_eq_true rfl, Nat.le_of_ble_eq_true rfl⟩) 2 3 cg_2 rfl rfl rfl rfl (Nat.le_of_ble_eq_true rfl) dX3_isLonger_23 (fun r9 u8 hp => ?_)
      refine ww_aload_n X dX3_isLonger_26 1 rfl ?_
      refine ww_iconst X (v := 0) dX3_isLonger_27 (by decide) ?_
      refine ww_iload_n X dX3_isLonger_28 3 rfl ?_
      refine ww_callV_i X (As := [.int 0, .int a2]) (rest := [.int r9]) (kX3_countingOf l D ad cB cI cZ 0 a2 u8 _ hp) (cwV 2 X.hts gX3_isLonger_X3_countingOf rfl rfl rfl hd_X3_countingOf ⟨Nat.le_of_ble_eq_true rfl, Nat.le_of_ble_eq_true rfl⟩) 2 3 cg_2 rfl rfl rfl rfl (Nat.le_of_ble_eq_true rfl) dX3_isLonger_29 (fun r11 u10 hp => ?_)
      refine ww_icmp_ge X (tgt := 39) dX3_isLonger_32 (by decide) (fun h12 => ?_) (fun h12 => ?_)
      · have hp := hp.1 h12
        exact ww_sub (lv' := [(0, .ref (ad 2))]) [1] rfl (wX3_isLonger_b39 X   u10 hp)
      · have hp := hp.2 h12
        exact ww_sub (lv' := [(0, .ref (ad 2))]) [1] rfl (wX3_isLonger_b35 X   u10 hp)
