set_option maxHeartbeats 4000000 in
set_option maxRecDepth 100000 in
theorem wJ7_fill_53178_b5 {p : Program} {l : Launch} {e : Env} {s : State} {m : MethodId} {args : Array Value} {below : List Frame} {meth : Method} {c : Code} {D : va_G} {A : Nat → Prop} {ad : Nat → Nat} {cB cI cZ : ClassId} {post : Sg → Prop} {K5 : Int32 → Int32 → Int32 → Sg → Prop} (X : Cx p s m args meth c cJ7_fill_53178 4 none RJ7 wsJ7_fill_53178 D (tyL cB cI cZ) A) (hK5 : ∀ (x1 x2 x3 : Int32) (z : Sg), K5 x1 x2 x3 z → WW p l e rmJ7_fill_53178 s m args below meth c 4 D A (cW ad cB cI cZ) (QV below args s D (tyL cB cI cZ) (cW ad cB cI cZ) A post) z 5 [(0, .ref (ad 11)), (1, .int x1), (2, .int x2), (3, .int x3)] []) (x1 x2 x3 : Int32) (z : Sg) (hp : pJ7_fill_53178_b5 K5 post x1 x2 x3 z) : WW p l e rmJ7_fill_53178 s m args below meth c 4 D A (cW ad cB cI cZ) (QV below args s D (tyL cB cI cZ) (cW ad cB cI cZ) A post) z 5 [(0, .ref (ad 11)), (1, .int x1), (2, .int x2), (3, .int x3)] [] := by
  unfold pJ7_fill_53178_b5 at hp
  refine ww_iload_n X dJ7_fill_53178_5 2 rfl ?_
  refine ww_iload_n X dJ7_fill_53178_6 3 rfl ?_
  refine ww_icmp_ge X (tgt := 20) dJ7_fill_53178_7 (by decide) (fun h1 => ?_) (fun h1 => ?_)
  · have hp := hp.1 h1
    exact ww_vret X hp dJ7_fill_53178_20
  · have hp := hp.2 h1
    refine ww_aload_n X dJ7_fill_53178_10 0 rfl ?_
    refine ww_iload_n X dJ7_fill_53178_11 2 rfl ?_
    refine ww_iload_n X dJ7_fill_53178_12 1 rfl ?_
    obtain ⟨h2, hp⟩ := hp
    refine ww_iast X 11 1 cg_11 rfl (sg' := (sA z 7 x2 x1)) h2 ca_11 dJ7_fill_53178_13 ?_
    refine ww_iinc X (v := (x2 + 1)) (lv' := [(2, .int (x2 + 1)), (0, .ref (ad 11)), (1, .int x1), (3, .int x3)]) dJ7_fill_53178_14 2 rfl rfl (by decide) rfl ?_
    refine ww_goto X (tgt := 5) dJ7_fill_53178_17 (by decide) ?_
    exact ww_sub (lv' := [(0, .ref (ad 11)), (1, .int x1), (2, .int (x2 + 1)), (3, .int x3)]) [1, 2, 0, 3] rfl (hK5 x1 (x2 + 1) x3 (sA z 7 x2 x1) hp)
set_option maxHeartbeats 4000000 in
set_option maxRecDepth 100000 in
theorem wJ7_fill_53178_l5 {p : Program} {l : Launch} {e : Env} {s : State} {m : MethodId} {args : Array Value} {below : List Frame} {meth : Method} {c : Code} {D : va_G} {A : Nat → Prop} {ad : Nat → Nat} {cB cI cZ : ClassId} {post : Sg → Prop}  (X : Cx p s m args meth c cJ7_fill_53178 4 none RJ7 wsJ7_fill_53178 D (tyL cB cI cZ) A)  (x1 x2 x3 : Int32) (z : Sg) (hp : pJ7_fill_53178_l5  post x1 x2 x3 z) : WW p l e rmJ7_fill_53178 s m args below meth c 4 D A (cW ad cB cI cZ) (QV below args s D (tyL cB cI cZ) (cW ad cB cI cZ) A post) z 5 [(0, .ref (ad 11)), (1, .int x1), (2, .int x2), (3, .int x3)] [] := by
  have key := lp_walk (F := (fun (K : Int32 × Int32 × Int32 → Sg → Prop) (a : Int32 × Int32 × Int32) (z : Sg) => pJ7_fill_53178_b5 (fun (x1 x2 x3 : Int32) z => K (x1, x2, x3) z) post a.1 a.2.1 a.2.2 z)) (P := fun a z => WW p l e rmJ7_fill_53178 s m args below meth c 4 D A (cW ad cB cI cZ) (QV below args s D (tyL cB cI cZ) (cW ad cB cI cZ) A post) z 5 [(0, .ref (ad 11)), (1, .int a.1), (2, .int a.2.1), (3, .int a.2.2)] []) (fun K hK a z hp => wJ7_fill_53178_b5 X (fun x1 x2 x3 z h => hK (x1, x2, x3) z h) a.1 a.2.1 a.2.2 z hp)
  exact key (x1, x2, x3) z hp
set_option maxHeartbeats 4000000 in
set_option maxRecDepth 100000 in
theorem kJ7_fill_53178 (l : Launch) (D : va_G) (ad : Nat → Nat) (cB cI cZ : ClassId) (a1 : Int32) (z : Sg) (post : Sg → Prop) (hp : pJ7_fill_53178 a1 z post) : Cv l D (tyL cB cI cZ) (cW ad cB cI cZ) yJ7_fill_53178 wsJ7_fill_53178 rmJ7_fill_53178 [.ref (ad 11), .int a1] z post := by
  refine Cv.of (cc := cJ7_fill_53178) (maxL := 4) (ret := none) (by decide) rfl (Nat.le_of_ble_eq_true rfl) ?_
  intro p e s m args below meth c A X
  have X : Cx p s m args meth c cJ7_fill_53178 4 none RJ7 wsJ7_fill_53178 D (tyL cB cI cZ) A := X
  show WW p l e rmJ7_fill_53178 s m args below meth c 4 D A (cW ad cB cI cZ) (QV below args s D (tyL cB cI cZ) (cW ad cB cI cZ) A post) z 0 [(0, .ref (ad 11)), (1, .int a1)] []
  unfold pJ7_fill_53178 at hp
  refine ww_iconst X (v := 0) dJ7_fill_53178_0 (by decide) ?_
  refine ww_istore_n X (lv' := [(2, .int 0), (0, .ref (ad 11)), (1, .int a1)]) dJ7_fill_53178_1 (by decide) rfl ?_
  refine ww_aload_n X dJ7_fill_53178_2 1 rfl ?_
  refine ww_alen X 11 1 cg_11 rfl (v := 192) rfl dJ7_fill_53178_3 ?_
  refine ww_istore_n X (lv' := [(3, .int 192), (2, .int 0), (0, .ref (ad 11)), (1, .int a1)]) dJ7_fill_53178_4 (by decide) rfl ?_
  exact ww_sub (lv' := [(0, .ref (ad 11)), (1, .int a1), (2, .int 0), (3, .int 192)]) [2, 3, 1, 0] rfl (wJ7_fill_53178_l5 X  a1 0 192 z hp)
set_option maxHeartbeats 4000000 in
set_option maxRecDepth 100000 in
theorem wX2_isLetter_b15 {p : Program} {l : Launch} {e : Env} {s : State} {m : MethodId} {args : Array Value} {below : List Frame} {meth : Method} {c : Code} {D : va_G} {A : Nat → Prop} {ad : Nat → Nat} {cB cI cZ : ClassId} {post : Int32 → Sg → Prop}  (X : Cx p s m args meth c cX2_isLetter 1 (some .boolean) RX2 wsX2_isLetter D (tyL cB cI cZ) A)  (y0 : Int32) (z : Sg) (hp : pX2_isLetter_b15  post y0 z) : WW p l e rmX2_isLetter s m args below meth c 1 D A (cW ad cB cI cZ) (QI below args s D (tyL cB cI cZ) (cW ad cB cI cZ) A post) z 15 [] [.int y0] := by
  unfold pX2_isLetter_b15 at hp
  exact ww_zret X hp.1 hp.2 dX2_isLetter_15
set_option maxHeartbeats 4000000 in
set_option maxRecDepth 100000 in
theorem wX2_isLetter_b14 {p : Program} {l : Launch} {e : Env} {s : State} {m : MethodId} {args : Array Value} {below : List Frame} {meth : Method} {c : Code} {D : va_G} {A : Nat → Prop} {ad : Nat → Nat} {cB cI cZ : ClassId} {post : Int32 → Sg → Prop}  (X : Cx p s m args meth c cX2_isLetter 1 (some .boolean) RX2 wsX2_isLetter D (tyL cB cI cZ) A)  (z : Sg) (hp : pX2_isLetter_b14  post  z) : WW p l e rmX2_isLetter s m args below meth c 1 D A (cW ad cB cI cZ) (QI below args s D (tyL cB cI cZ) (cW ad cB cI cZ) A post) z 14 [] [] := by
  unfold pX2_isLetter_b14 at hp
  refine ww_iconst X (v := 0) dX2_isLetter_14 (by decide) ?_
  exact wX2_isLetter_b15 X  0 z hp
set_option maxHeartbeats 4000000 in
set_option maxRecDepth 100000 in
theorem kX2_isLetter (l : Launch) (D : va_G) (ad : Nat → Nat) (cB cI cZ : ClassId) (a0 : Int32) (z : Sg) (post : Int32 → Sg → Prop) (hp : pX2_isLetter a0 z post) : Ci l D (tyL cB cI cZ) (cW ad cB cI cZ) yX2_isLetter wsX2_isLetter rmX2_isLetter [.int a0] z post := by
  refine Ci.of (cc := cX2_isLetter) (maxL := 1) (ret := (some .boolean)) (by decide) rfl (Nat.le_of_ble_eq_true rfl) ?_
  intro p e s m args below meth c A X
  have X : Cx p s m args meth c cX2_isLetter 1 (some .boolean) RX2 wsX2_isLetter D (tyL cB cI cZ) A := X
  show WW p l e rmX2_isLetter s m args below meth c 1 D A (cW ad cB cI cZ) (QI below args s D (tyL cB cI cZ) (cW ad cB cI cZ) A post) z 0 [(0, .int a0)] []
  unfold pX2_isLetter at hp
  refine ww_iload_n X dX2_isLetter_0 0 rfl ?_
  refine ww_if_lt X (tgt := 14) dX2_isLetter_1 (by decide) (fun h1 => ?_) (fun h1 => ?_)
  · have hp := hp.1 h1
    exact ww_sub (lv' := []) [] rfl (wX2_isLetter_b14 X   z hp)
  · have hp := hp.2 h1
    refine ww_iload_n X dX2_isLetter_4 0 rfl ?_
    refine ww_bipush X (v := 7) dX2_isLetter_5 (by decide) ?_
    refine ww_icmp_ge X (tgt := 14) dX2_isLetter_7 (by decide) (fun h2 => ?_) (fun h2 => ?_)
    · have hp := hp.1 h2
      exact ww_sub (lv' := []) [] rfl (wX2_isLetter_b14 X   z hp)
    · have hp := hp.2 h2
      refine ww_iconst X (v := 1) dX2_isLetter_10 (by decide) ?_
      refine ww_goto X (tgt := 15) dX2_isLetter_11 (by decide) ?_
      exact ww_sub (lv' := []) [] rfl (wX2_isLetter_b15 X  1 z hp)
set_option maxHeartbeats 4000000 in
set_option maxRecDepth 100000 in
theorem wX2_canBe_b30 {p : Program} {l : Launch} {e : Env} {s : State} {m : MethodId} {args : Array Value} {below : List Frame} {meth : Method} {c : Code} {D : va_G} {A : Nat → Prop} {ad : Nat → Nat} {cB cI cZ : ClassId} {post : Int32 → Sg → Prop}  (X : Cx p s m args meth c cX2_canBe 2 (some .boolean) RX2 wsX2_canBe D (tyL cB cI cZ) A)  (y0 : Int32) (z : Sg) (hp : pX2_canBe_b30  post y0 z) : WW p l e rmX2_canBe s m args below meth c 2 D A (cW ad cB cI cZ) (QI below args s D (tyL cB cI cZ) (cW ad cB cI cZ) A post) z 30 [] [.int y0] := by
  unfold pX2_canBe_b30 at hp
  exact ww_zret X hp.1 hp.2 dX2_canBe_30
set_option maxHeartbeats 4000000 in
set_option maxRecDepth 100000 in
theorem wX2_canBe_b29 {p : Program} {l : Launch} {e : Env} {s : State} {m : MethodId} {args : Array Value} {below : List Frame} {meth : Method} {c : Code} {D : va_G} {A : Nat → Prop} {ad : Nat → Nat} {cB cI cZ : ClassId} {post : Int32 → Sg → Prop}  (X : Cx p s m args meth c cX2_canBe 2 (some .boolean) RX2 wsX2_canBe D (tyL cB cI cZ) A)  (z : Sg) (hp : pX2_canBe_b29  post  z) : WW p l e rmX2_canBe s m args below meth c 2 D A (cW ad cB cI cZ) (QI below args s D (tyL cB cI cZ) (cW ad cB cI cZ) A post) z 29 [] [] := by
  unfold pX2_canBe_b29 at hp
  refine ww_iconst X (v := 0) dX2_canBe_29 (by decide) ?_
  exact wX2_canBe_b30 X  0 z hp
set_option maxHeartbeats 4000000 in
set_option maxRecDepth 100000 in
theorem kX2_canBe (l : Launch) (D : va_G) (ad : Nat → Nat) (cB cI cZ : ClassId) (a0 a1 : Int32) (z : Sg) (post : Int32 → Sg → Prop) (hp : pX2_canBe a0 a1 z post) : Ci l D (tyL cB cI cZ) (cW ad cB cI cZ) yX2_canBe wsX2_canBe rmX2_canBe [.int a0, .int a1] z post := by
  refine Ci.of (cc := cX2_canBe) (maxL := 2) (ret := (some .boolean)) (by decide) rfl (Nat.le_of_ble_eq_true rfl) ?_
  intro p e s m args below meth c A X
  have X : Cx p s m args meth c cX2_canBe 2 (some .boolean) RX2 wsX2_canBe D (tyL cB cI cZ) A := X
  show WW p l e rmX2_canBe s m args below meth c 2 D A (cW ad cB cI cZ) (QI below args s D (tyL cB cI cZ) (cW ad cB cI cZ) A post) z 0 [(0, .int a0), (1, .int a1)] []
  unfold pX2_canBe at hp
  refine ww_iload_n X dX2_canBe_0 0 rfl ?_
  refine ww_callS_i X (As := [.int a0]) (rest := []) (kX2_isLetter l D ad cB cI cZ a0 z _ hp) (va_cwS 1 X.hts gX2_canBe_X2_isLetter rfl rfl rfl hn_X2_isLetter ⟨Nat.le_of_ble_eq_true rfl, Nat.le_of_ble_eq_true rfl⟩) rfl rfl (Nat.le_of_ble_eq_true rfl) dX2_canBe_1 (fun r2 u1 hp => ?_)
  refine ww_if_eq X (tgt := 29) dX2_canBe_4 (by decide) (fun h3 => ?_) (fun h3 => ?_)
  · have hp := hp.1 h3
    exact ww_sub (lv' := []) [] rfl (wX2_canBe_b29 X   u1 hp)
  · have hp := hp.2 h3
    refine ww_iload_n X dX2_canBe_7 1 rfl ?_
    obtain ⟨t4, hzt4, hTt4⟩ := X.hE.1.2.2.1
    refine ww_gets X hzt4 (X.wd 1 rfl) dX2_canBe_8 ?_
    refine ww_iload_n X dX2_canBe_11 0 rfl ?_
    obtain ⟨h5, hp⟩ := hp
    refine ww_ti X hTt4 h5 dX2_canBe_12 ?_
    refine ww_icmp_lt X (tgt := 29) dX2_canBe_13 (by decide) (fun h6 => ?_) (fun h6 => ?_)
    · have hp := hp.1 h6
      exact ww_sub (lv' := []) [] rfl (wX2_canBe_b29 X   u1 hp)
    · have hp := hp.2 h6
      refine ww_iload_n X dX2_canBe_16 1 rfl ?_
      obtain ⟨t7, hzt7, hTt7⟩ := X.hE.1.2.2.2.1
      refine ww_gets X hzt7 (X.wd 2 rfl) dX2_canBe_17 ?_
      refine ww_iload_n X dX2_canBe_20 0 rfl ?_
      obtain ⟨h8, hp⟩ := hp
      refine ww_ti X hTt7 h8 dX2_canBe_21 ?_
      refine ww_icmp_gt X (tgt := 29) dX2_canBe_22 (by decide) (fun h9 => ?_) (fun h9 => ?_)
      · have hp := hp.1 h9
        exact ww_sub (lv' := []) [] rfl (wX2_canBe_b29 X   u1 hp)
      · have hp := hp.2 h9
        refine ww_iconst X (v := 1) dX2_canBe_25 (by decide) ?_
        refine ww_goto X (tgt := 30) dX2_canBe_26 (by decide) ?_
        exact ww_sub (lv' := []) [] rfl (wX2_canBe_b30 X  1 u1 hp)
set_option maxHeartbeats 4000000 in
set_option maxRecDepth 100000 in
theorem wX2_faultOfClause_b49 {p : Program} {l : Launch} {e : Env} {s : State} {m : MethodId} {args : Array Value} {below : List Frame} {meth : Method} {c : Code} {D : va_G} {A : Nat → Prop} {ad : Nat → Nat} {cB cI cZ : ClassId} {post : Int32 → Sg → Prop}  (X : Cx p s m args meth c cX2_faultOfClause 5 (some .int) RX2 wsX2_faultOfClause D (tyL cB cI cZ) A)  (y0 : Int32) (z : Sg) (hp : pX2_faultOfClause_b49  post y0 z) : WW p l e rmX2_faultOfClause s m args below meth c 5 D A (cW ad cB cI cZ) (QI below args s D (tyL cB cI cZ) (cW ad cB cI cZ) A post) z 49 [] [.int y0] := by
  unfold pX2_faultOfClause_b49 at hp
  exact ww_iret X hp dX2_faultOfClause_49
set_option maxHeartbeats 4000000 in
set_option maxRecDepth 100000 in
theorem wX2_faultOfClause_b39 {p : Program} {l : Launch} {e : Env} {s : State} {m : MethodId} {args : Array Value} {below : List Frame} {meth : Method} {c : Code} {D : va_G} {A : Nat → Prop} {ad : Nat → Nat} {cB cI cZ : ClassId} {post : Int32 → Sg → Prop}  (X : Cx p s m args meth c cX2_faultOfClause 5 (some .int) RX2 wsX2_faultOfClause D (tyL cB cI cZ) A)  (z : Sg) (hp : pX2_faultOfClause_b39  post  z) : WW p l e rmX2_faultOfClause s m args below meth c 5 D A (cW ad cB cI cZ) (QI below args s D (tyL cB cI cZ) (cW ad cB cI cZ) A post) z 39 [] [] := by
  unfold pX2_faultOfClause_b39 at hp
  refine ww_iconst X (v := 0) dX2_faultOfClause_39 (by decide) ?_
  refine ww_goto X (tgt := 49) dX2_faultOfClause_40 (by decide) ?_
  exact wX2_faultOfClause_b49 X  0 z hp
set_option maxHeartbeats 4000000 in
set_option maxRecDepth 100000 in
theorem kX2_faultOfClause (l : Launch) (D : va_G) (ad : Nat → Nat) (cB cI cZ : ClassId) (a0 a1 a2 a3 a4 : Int32) (z : Sg) (post : Int32 → Sg → Prop) (hp : pX2_faultOfClause a0 a1 a2 a3 a4 z post) : Ci l D (tyL cB cI cZ) (cW ad cB cI cZ) yX2_faultOfClause wsX2_faultOfClause rmX2_faultOfClause [.int a0, .int a1, .int a2, .int a3, .int a4] z post := by
  refine Ci.of (cc := cX2_faultOfClause) (maxL := 5) (ret := (some .int)) (by decide) rfl (Nat.le_of_ble_eq_true rfl) ?_
  intro p e s m args below meth c A X
  have X : Cx p s m args meth c cX2_faultOfClause 5 (some .int) RX2 wsX2_faultOfClause D (tyL cB cI cZ) A := X
  show WW p l e rmX2_faultOfClause s m args below meth c 5 D A (cW ad cB cI cZ) (QI below args s D (tyL cB cI cZ) (cW ad cB cI cZ) A post) z 0 [(0, .int a0), (1, .int a1), (2, .int a2), (3, .int a3), (4, .int a4)] []
  unfold pX2_faultOfClause at hp
  refine ww_iload_n X dX2_faultOfClause_0 2 rfl ?_
  refine ww_if_ne X (tgt := 11) dX2_faultOfClause_1 (by decide) (fun h1 => ?_) (fun h1 => ?_)
  · have hp := hp.1 h1
    refine ww_iload_n X dX2_faultOfClause_11 0 rfl ?_
    refine ww_iload_n X dX2_faultOfClause_12 1 rfl ?_
    refine ww_callS_i X (As := [.int a0, .int a1]) (rest := []) (kX2_canBe l D ad cB cI cZ a0 a1 z _ hp) (va_cwS 2 X.hts gX2_faultOfClause_X2_canBe rfl rfl rfl hn_X2_canBe ⟨Nat.le_of_ble_eq_true rfl, Nat.le_of_ble_eq_true rfl⟩) rfl rfl (Nat.le_of_ble_eq_true rfl) dX2_faultOfClause_13 (fun r3 u2 hp => ?_)
    refine ww_if_ne X (tgt := 28) dX2_faultOfClause_16 (by decide) (fun h4 => ?_) (fun h4 => ?_)
    · have hp := hp.1 h4
      refine ww_iload_n X dX2_faultOfClause_28 3 rfl ?_
      refine ww_bipush X (v := 59) dX2_faultOfClause_29 (by decide) ?_
      refine ww_icmp_eq X (tgt := 39) dX2_faultOfClause_31 (by decide) (fun h5 => ?_) (fun h5 => ?_)
      · have hp := hp.1 h5
        exact ww_sub (lv' := []) [] rfl (wX2_faultOfClause_b39 X   u2 hp)
      · have hp := hp.2 h5
        refine ww_iload_n X dX2_faultOfClause_34 3 rfl ?_
        refine ww_iconst X (v := (-1)) dX2_faultOfClause_35 (by decide) ?_
        refine ww_icmp_ne X (tgt := 43) dX2_faultOfClause_36 (by decide) (fun h6 => ?_) (fun h6 => ?_)
        · have hp := hp.1 h6
          refine ww_sipush X (v := 500) dX2_faultOfClause_43 (by decide) ?_
          refine ww_iload X dX2_faultOfClause_46 4 rfl ?_
          refine ww_iadd X dX2_faultOfClause_48 ?_
          exact ww_sub (lv' := []) [] rfl (wX2_faultOfClause_b49 X  (500 + a4) u2 hp)
        · have hp := hp.2 h6
          exact ww_sub (lv' := []) [] rfl (wX2_faultOfClause_b39 X   u2 hp)
    · have hp := hp.2 h4
      refine ww_sipush X (v := 400) dX2_faultOfClause_19 (by decide) ?_
      refine ww_iload X dX2_faultOfClause_22 4 rfl ?_
      refine ww_iadd X dX2_faultOfClause_24 ?_
      refine ww_iload_n X dX2_faultOfClause_25 2 rfl ?_
      refine ww_isub X dX2_faultOfClause_26 ?_
      exact ww_iret X hp dX2_faultOfClause_27
  · have hp := hp.2 h1
    refine ww_sipush X (v := 200) dX2_faultOfClause_4 (by decide) ?_
    refine ww_iload X dX2_faultOfClause_7 4 rfl ?_
    refine ww_iadd X dX2_faultOfClause_9 ?_
    exact ww_iret X hp dX2_faultOfClause_10
set_option maxHeartbeats 4000000 in
set_option maxRecDepth 100000 in
theorem wX2_letterOf_b2 {p : Program} {l : Launch} {e : Env} {s : State} {m : MethodId} {args : Array Value} {below : List Frame} {meth : Method} {c : Code} {D : va_G} {A : Nat → Prop} {ad : Nat → Nat} {cB cI cZ : ClassId} {post : Int32 → Sg → Prop} {K2 : Int32 → Int32 → Sg → Prop} (X : Cx p s m args meth c cX2_letterOf 2 (some .int) RX2 wsX2_letterOf D (tyL cB cI cZ) A) (hK2 : ∀ (x0 x1 : Int32) (z : Sg), K2 x0 x1 z → WW p l e rmX2_letterOf s m args below meth c 2 D A (cW ad cB cI cZ) (QI below args s D (tyL cB cI cZ) (cW ad cB cI cZ) A post) z 2 [(0, .int x0), (1, .int x1)] []) (x0 x1 : Int32) (z : Sg) (hp : pX2_letterOf_b2 K2 post x0 x1 z) : WW p l e rmX2_letterOf s m args below meth c 2 D A (cW ad cB cI cZ) (QI below args s D (tyL cB cI cZ) (cW ad cB cI cZ) A post) z 2 [(0, .int x0), (1, .int x1)] [] := by
  unfold pX2_letterOf_b2 at hp
  refine ww_iload_n X dX2_letterOf_2 1 rfl ?_
  refine ww_bipush X (v := 7) dX2_letterOf_3 (by decide) ?_
  refine ww_icmp_ge X (tgt := 25) dX2_letterOf_5 (by decide) (fun h1 => ?_) (fun h1 => ?_)
  · have hp := hp.1 h1
    refine ww_iconst X (v := (-1)) dX2_letterOf_25 (by decide) ?_
    exact ww_iret X hp dX2_letterOf_26
  · have hp := hp.2 h1
    obtain ⟨t2, hzt2, hTt2⟩ := X.hE.1.2.2.2.2.1
    refine ww_gets X hzt2 (X.wd 1 rfl) dX2_letterOf_8 ?_
    refine ww_iload_n X dX2_letterOf_11 1 rfl ?_
    obtain ⟨h3, hp⟩ := hp
    refine ww_tc X hTt2 h3 dX2_letterOf_12 ?_
    refine ww_iload_n X dX2_letterOf_13 0 rfl ?_
    refine ww_icmp_ne X (tgt := 19) dX2_letterOf_14 (by decide) (fun h4 => ?_) (fun h4 => ?_)
    · have hp := hp.1 h4
      refine ww_iinc X (v := (x1 + 1)) (lv' := [(1, .int (x1 + 1)), (0, .int x0)]) dX2_letterOf_19 1 rfl rfl (by decide) rfl ?_
      refine ww_goto X (tgt := 2) dX2_letterOf_22 (by decide) ?_
      exact ww_sub (lv' := [(0, .int x0), (1, .int (x1 + 1))]) [1, 0] rfl (hK2 x0 (x1 + 1) z hp)
    · have hp := hp.2 h4
      refine ww_iload_n X dX2_letterOf_17 1 rfl ?_
      exact ww_iret X hp dX2_letterOf_18
set_option maxHeartbeats 4000000 in
set_option maxRecDepth 100000 in
theorem wX2_letterOf_l2 {p : Program} {l : Launch} {e : Env} {s : State} {m : MethodId} {args : Array Value} {below : List Frame} {meth : Method} {c : Code} {D : va_G} {A : Nat → Prop} {ad : Nat → Nat} {cB cI cZ : ClassId} {post : Int32 → Sg → Prop}  (X : Cx p s m args meth c cX2_letterOf 2 (some .int) RX2 wsX2_letterOf D (tyL cB cI cZ) A)  (x0 x1 : Int32) (z : Sg) (hp : pX2_letterOf_l2  post x0 x1 z) : WW p l e rmX2_letterOf s m args below meth c 2 D A (cW ad cB cI cZ) (QI below args s D (tyL cB cI cZ) (cW ad cB cI cZ) A post) z 2 [(0, .int x0), (1, .int x1)] [] := by
  have key := lp_walk (F := (fun (K : Int32 × Int32 → Sg → Prop) (a : Int32 × Int32) (z : Sg) => pX2_letterOf_b2 (fun (x0 x1 : Int32) z => K (x0, x1) z) post a.1 a.2 z)) (P := fun a z => WW p l e rmX2_letterOf s m args below meth c 2 D A (cW ad cB cI cZ) (QI below args s D (tyL cB cI cZ) (cW ad cB cI cZ) A post) z 2 [(0, .int a.1), (1, .int a.2)] []) (fun K hK a z hp => wX2_letterOf_b2 X (fun x0 x1 z h => hK (x0, x1) z h) a.1 a.2 z hp)
  exact key (x0, x1) z hp
set_option maxHeartbeats 4000000 in
set_option maxRecDepth 100000 in
theorem kX2_letterOf (l : Launch) (D : va_G) (ad : Nat → Nat) (cB cI cZ : ClassId) (a0 : Int32) (z : Sg) (post : Int32 → Sg → Prop) (hp : pX2_letterOf a0 z post) : Ci l D (tyL cB cI cZ) (cW ad cB cI cZ) yX2_letterOf wsX2_letterOf rmX2_letterOf [.int a0] z post := by
  refine Ci.of (cc := cX2_letterOf) (maxL := 2) (ret := (some .int)) (by decide) rfl (Nat.le_of_ble_eq_true rfl) ?_
  intro p e s m args below meth c A X
  have X : Cx p s m args meth c cX2_letterOf 2 (some .int) RX2 wsX2_letterOf D (tyL cB cI cZ) A := X
  show WW p l e rmX2_letterOf s m args below meth c 2 D A (cW ad cB cI cZ) (QI below args s D (tyL cB cI cZ) (cW ad cB cI cZ) A post) z 0 [(0, .int a0)] []
  unfold pX2_letterOf at hp
  refine ww_iconst X (v := 0) dX2_letterOf_0 (by decide) ?_
  refine ww_istore_n X (lv' := [(1, .int 0), (0, .int a0)]) dX2_letterOf_1 (by decide) rfl ?_
  exact ww_sub (lv' := [(0, .int a0), (1, .int 0)]) [1, 0] rfl (wX2_letterOf_l2 X  a0 0 z hp)
set_option maxHeartbeats 4000000 in
set_option maxRecDepth 100000 in
theorem wX2_number_b17 {p : Program} {l : Launch} {e : Env} {s : State} {m : MethodId} {args : Array Value} {below : List Frame} {meth : Method} {c : Code} {D : va_G} {A : Nat → Prop} {ad : Nat → Nat} {cB cI cZ : ClassId} {post : Int32 → Sg → Prop}  (X : Cx p s m args meth c cX2_number 2 (some .int) RX2 wsX2_number D (tyL cB cI cZ) A)  (y0 : Int32) (z : Sg) (hp : pX2_number_b17  post y0 z) : WW p l e rmX2_number s m args below meth c 2 D A (cW ad cB cI cZ) (QI below args s D (tyL cB cI cZ) (cW ad cB cI cZ) A post) z 17 [(0, .ref (ad 3))] [.int y0] := by
  unfold pX2_number_b17 at hp
  exact ww_iret X hp dX2_number_17
set_option maxHeartbeats 4000000 in
set_option maxRecDepth 100000 in
theorem kX2_number (l : Launch) (D : va_G) (ad : Nat → Nat) (cB cI cZ : ClassId) (a1 : Int32) (z : Sg) (post : Int32 → Sg → Prop) (hp : pX2_number a1 z post) : Ci l D (tyL cB cI cZ) (cW ad cB cI cZ) yX2_number wsX2_number rmX2_number [.ref (ad 3), .int a1] z post := by
  refine Ci.of (cc := cX2_number) (maxL := 2) (ret := (some .int)) (by decide) rfl (Nat.le_of_ble_eq_true rfl) ?_
  intro p e s m args below meth c A X
  have X : Cx p s m args meth c cX2_number 2 (some .int) RX2 wsX2_number D (tyL cB cI cZ) A := X
  show WW p l e rmX2_number s m args below meth c 2 D A (cW ad cB cI cZ) (QI below args s D (tyL cB cI cZ) (cW ad cB cI cZ) A post) z 0 [(0, .ref (ad 3)), (1, .int a1)] []
  unfold pX2_number at hp
  refine ww_iload_n X dX2_number_0 1 rfl ?_
  refine ww_callS_i X (As := [.int a1]) (rest := []) (kX2_isLetter l D ad cB cI cZ a1 z _ hp) (va_cwS 1 X.hts gX2_number_X2_isLetter rfl rfl rfl hn_X2_isLetter ⟨Nat.le_of_ble_eq_true rfl, Nat.le_of_ble_eq_true rfl⟩) rfl rfl (Nat.le_of_ble_eq_true rfl) dX2_number_1 (fun r2 u1 hp => ?_)
  refine ww_if_eq X (tgt := 16) dX2_number_4 (by decide) (fun h3 => ?_) (fun h3 => ?_)
  · have hp := hp.1 h3
    refine ww_iconst X (v := 0) dX2_number_16 (by decide) ?_
    exact ww_sub (lv' := [(0, .ref (ad 3))]) [0] rfl (wX2_number_b17 X  0 u1 hp)
  · have hp := hp.2 h3
    refine ww_aload_n X dX2_number_7 0 rfl ?_
    refine ww_get X in_X2_number_X2 3 cg_3 rfl 0 (by decide) (X.wd 1 rfl) (v := .ref (ad 4)) rfl dX2_number_8 ?_
    refine ww_iload_n X dX2_number_11 1 rfl ?_
    obtain ⟨h4, hp⟩ := hp
    refine ww_iald X 4 1 cg_4 rfl (v := (gA u1 1 a1)) h4 rfl dX2_number_12 ?_
    refine ww_goto X (tgt := 17) dX2_number_13 (by decide) ?_
    exact ww_sub (lv' := [(0, .ref (ad 3))]) [0] rfl (wX2_number_b17 X  (gA u1 1 a1) u1 hp)
set_option maxHeartbeats 4000000 in
set_option maxRecDepth 100000 in
theorem wX2_read_b167 {p : Program} {l : Launch} {e : Env} {s : State} {m : MethodId} {args : Array Value} {below : List Frame} {meth : Method} {c : Code} {D : va_G} {A : Nat → Prop} {ad : Nat → Nat} {cB cI cZ : ClassId} {post : Int32 → Sg → Prop} {K25 : Int32 → Int32 → Int32 → Int32 → Int32 → Sg → Prop} (X : Cx p s m args meth c cX2_read 9 (some .int) RX2 wsX2_read D (tyL cB cI cZ) A) (hK25 : ∀ (x2 x3 x4 x5 x6 : Int32) (z : Sg), K25 x2 x3 x4 x5 x6 z → WW p l e rmX2_read s m args below meth c 9 D A (cW ad cB cI cZ) (QI below args s D (tyL cB cI cZ) (cW ad cB cI cZ) A post) z 25 [(0, .ref (ad 3)), (1, .ref (ad 1)), (2, .int x2), (3, .int x3), (4, .int x4), (5, .int x5), (6, .int x6)] []) (x2 x3 x4 x5 x6 : Int32) (z : Sg) (hp : pX2_read_b167 K25 post x2 x3 x4 x5 x6 z) : WW p l e rmX2_read s m args below meth c 9 D A (cW ad cB cI cZ) (QI below args s D (tyL cB cI cZ) (cW ad cB cI cZ) A post) z 167 [(0, .ref (ad 3)), (1, .ref (ad 1)), (2, .int x2), (3, .int x3), (4, .int x4), (5, .int x5), (6, .int x6)] [] := by
  unfold pX2_read_b167 at hp
  refine ww_iinc X (v := (x6 + 1)) (lv' := [(6, .int (x6 + 1)), (0, .ref (ad 3)), (1, .ref (ad 1)), (2, .int x2), (3, .int x3), (4, .int x4), (5, .int x5)]) dX2_read_167 6 rfl rfl (by decide) rfl ?_
  refine ww_goto X (tgt := 25) dX2_read_170 (by decide) ?_
  exact ww_sub (lv' := [(0, .ref (ad 3)), (1, .ref (ad 1)), (2, .int x2), (3, .int x3), (4, .int x4), (5, .int x5), (6, .int (x6 + 1))]) [1, 2, 3, 4, 5, 6, 0] rfl (hK25 x2 x3 x4 x5 (x6 + 1) z hp)
set_option maxHeartbeats 4000000 in
set_option maxRecDepth 100000 in
theorem wX2_read_b135 {p : Program} {l : Launch} {e : Env} {s : State} {m : MethodId} {args : Array Value} {below : List Frame} {meth : Method} {c : Code} {D : va_G} {A : Nat → Prop} {ad : Nat → Nat} {cB cI cZ : ClassId} {post : Int32 → Sg → Prop} {K25 : Int32 → Int32 → Int32 → Int32 → Int32 → Sg → Prop} (X : Cx p s m args meth c cX2_read 9 (some .int) RX2 wsX2_read D (tyL cB cI cZ) A) (hK25 : ∀ (x2 x3 x4 x5 x6 : Int32) (z : Sg), K25 x2 x3 x4 x5 x6 z → WW p l e rmX2_read s m args below meth c 9 D A (cW ad cB cI cZ) (QI below args s D (tyL cB cI cZ) (cW ad cB cI cZ) A post) z 25 [(0, .ref (ad 3)), (1, .ref (ad 1)), (2, .int x2), (3, .int x3), (4, .int x4), (5, .int x5), (6, .int x6)] []) (x2 x3 x4 x5 x6 x7 : Int32) (z : Sg) (hp : pX2_read_b135 K25 post x2 x3 x4 x5 x6 x7 z) : WW p l e rmX2_read s m args below meth c 9 D A (cW ad cB cI cZ) (QI below args s D (tyL cB cI cZ) (cW ad cB cI cZ) A post) z 135 [(0, .ref (ad 3)), (1, .ref (ad 1)), (2, .int x2), (3, .int x3), (4, .int x4), (5, .int x5), (6, .int x6), (7, .int x7)] [] := by
  unfold pX2_read_b135 at hp
  refine ww_iload_n X dX2_read_135 3 rfl ?_
  refine ww_iload X dX2_read_136 5 rfl ?_
  refine ww_iload X dX2_read_138 4 rfl ?_
  refine ww_iload X dX2_read_140 7 rfl ?_
  refine ww_iload X dX2_read_142 6 rfl ?_
  refine ww_callS_i X (As := [.int x3, .int x5, .int x4, .int x7, .int x6]) (rest := []) (kX2_faultOfClause l D ad cB cI cZ x3 x5 x4 x7 x6 z _ hp) (va_cwS 5 X.hts gX2_read_X2_faultOfClause rfl rfl rfl hn_X2_faultOfClause ⟨Nat.le_of_ble_eq_true rfl, Nat.le_of_ble_eq_true rfl⟩) rfl rfl (Nat.le_of_ble_eq_true rfl) dX2_read_144 (fun r2 u1 hp => ?_)
  refine ww_istore X (lv' := [(8, .int r2), (0, .ref (ad 3)), (1, .ref (ad 1)), (2, .int x2), (3, .int x3), (4, .int x4), (5, .int x5), (6, .int x6), (7, .int x7)]) dX2_read_147 (by decide) rfl ?_
  refine ww_iload X dX2_read_149 0 rfl ?_
  refine ww_if_eq X (tgt := 157) dX2_read_151 (by decide) (fun h3 => ?_) (fun h3 => ?_)
  · have hp := hp.1 h3
    refine ww_aload_n X dX2_read_157 1 rfl ?_
    refine ww_get X in_X2_read_X2 3 cg_3 rfl 1 (by decide) (X.wd 2 rfl) (v := .ref (ad 5)) rfl dX2_read_158 ?_
    refine ww_iload_n X dX2_read_161 4 rfl ?_
    refine ww_iload X dX2_read_162 6 rfl ?_
    obtain ⟨h4, hp⟩ := hp
    refine ww_iast X 5 1 cg_5 rfl (sg' := (sA u1 2 x3 x5)) h4 ca_5 dX2_read_164 ?_
    refine ww_iconst X (v := (-1)) dX2_read_165 (by decide) ?_
    refine ww_istore_n X (lv' := [(3, .int (-1)), (8, .int r2), (0, .ref (ad 3)), (1, .ref (ad 1)), (2, .int x2), (4, .int x4), (5, .int x5), (6, .int x6), (7, .int x7)]) dX2_read_166 (by decide) rfl ?_
    exact ww_sub (lv' := [(0, .ref (ad 3)), (1, .ref (ad 1)), (2, .int x2), (3, .int (-1)), (4, .int x4), (5, .int x5), (6, .int x6)]) [2, 3, 4, 0, 5, 6, 7] rfl (wX2_read_b167 X hK25 x2 (-1) x4 x5 x6 (sA u1 2 x3 x5) hp)
  · have hp := hp.2 h3
    refine ww_iload X dX2_read_154 0 rfl ?_
    exact ww_iret X hp dX2_read_156
set_option maxHeartbeats 4000000 in
set_option maxRecDepth 100000 in
theorem wX2_read_b52 {p : Program} {l : Launch} {e : Env} {s : State} {m : MethodId} {args : Array Value} {below : List Frame} {meth : Method} {c : Code} {D : va_G} {A : Nat → Prop} {ad : Nat → Nat} {cB cI cZ : ClassId} {post : Int32 → Sg → Prop} {K25 : Int32 → Int32 → Int32 → Int32 → Int32 → Sg → Prop} (X : Cx p s m args meth c cX2_read 9 (some .int) RX2 wsX2_read D (tyL cB cI cZ) A) (hK25 : ∀ (x2 x3 x4 x5 x6 : Int32) (z : Sg), K25 x2 x3 x4 x5 x6 z → WW p l e rmX2_read s m args below meth c 9 D A (cW ad cB cI cZ) (QI below args s D (tyL cB cI cZ) (cW ad cB cI cZ) A post) z 25 [(0, .ref (ad 3)), (1, .ref (ad 1)), (2, .int x2), (3, .int x3), (4, .int x4), (5, .int x5), (6, .int x6)] []) (x2 x3 x4 x5 x6 y0 : Int32) (z : Sg) (hp : pX2_read_b52 K25 post x2 x3 x4 x5 x6 y0 z) : WW p l e rmX2_read s m args below meth c 9 D A (cW ad cB cI cZ) (QI below args s D (tyL cB cI cZ) (cW ad cB cI cZ) A post) z 52 [(0, .ref (ad 3)), (1, .ref (ad 1)), (2, .int x2), (3, .int x3), (4, .int x4), (5, .int x5), (6, .int x6)] [.int y0] := by
  unfold pX2_read_b52 at hp
  refine ww_istore X (lv' := [(7, .int y0), (0, .ref (ad 3)), (1, .ref (ad 1)), (2, .int x2), (3, .int x3), (4, .int x4), (5, .int x5), (6, .int x6)]) dX2_read_52 (by decide) rfl ?_
  refine ww_iload_n X dX2_read_54 4 rfl ?_
  refine ww_callS_i X (As := [.int x3]) (rest := []) (kX2_isLetter l D ad cB cI cZ x3 z _ hp) (va_cwS 1 X.hts gX2_read_X2_isLetter rfl rfl rfl hn_X2_isLetter ⟨Nat.le_of_ble_eq_true rfl, Nat.le_of_ble_eq_true rfl⟩) rfl rfl (Nat.le_of_ble_eq_true rfl) dX2_read_55 (fun r2 u1 hp => ?_)
  refine ww_if_ne X (tgt := 89) dX2_read_58 (by decide) (fun h3 => ?_) (fun h3 => ?_)
  · have hp := hp.1 h3
    refine ww_iload X dX2_read_89 0 rfl ?_
    refine ww_bipush X (v := 48) dX2_read_91 (by decide) ?_
    refine ww_icmp_lt X (tgt := 135) dX2_read_93 (by decide) (fun h4 => ?_) (fun h4 => ?_)
    · have hp := hp.1 h4
      exact ww_sub (lv' := [(0, .ref (ad 3)), (1, .ref (ad 1)), (2, .int x2), (3, .int x3), (4, .int x4), (5, .int x5), (6, .int x6), (7, .int y0)]) [1, 2, 3, 4, 5, 6, 7, 0] rfl (wX2_read_b135 X hK25 x2 x3 x4 x5 x6 y0 u1 hp)
    · have hp := hp.2 h4
      refine ww_iload X dX2_read_96 0 rfl ?_
      refine ww_bipush X (v := 57) dX2_read_98 (by decide) ?_
      refine ww_icmp_gt X (tgt := 135) dX2_read_100 (by decide) (fun h5 => ?_) (fun h5 => ?_)
      · have hp := hp.1 h5
        exact ww_sub (lv' := [(0, .ref (ad 3)), (1, .ref (ad 1)), (2, .int x2), (3, .int x3), (4, .int x4), (5, .int x5), (6, .int x6), (7, .int y0)]) [1, 2, 3, 4, 5, 6, 7, 0] rfl (wX2_read_b135 X hK25 x2 x3 x4 x5 x6 y0 u1 hp)
      · have hp := hp.2 h5
        refine ww_iload X dX2_read_103 5 rfl ?_
        refine ww_iconst X (v := 4) dX2_read_105 (by decide) ?_
        refine ww_icmp_ne X (tgt := 116) dX2_read_106 (by decide) (fun h6 => ?_) (fun h6 => ?_)
        · have hp := hp.1 h6
          refine ww_iload X dX2_read_116 6 rfl ?_
          refine ww_bipush X (v := 10) dX2_read_118 (by decide) ?_
          refine ww_imul X dX2_read_120 ?_
          refine ww_iload X dX2_read_121 0 rfl ?_
          refine ww_iadd X dX2_read_123 ?_
          refine ww_bipush X (v := 48) dX2_read_124 (by decide) ?_
          refine ww_isub X dX2_read_126 ?_
          refine ww_top (fun v7 hv7 => ?_)
          have hp := hp v7 hv7
          refine ww_istore X (lv' := [(5, .int v7), (7, .int y0), (0, .ref (ad 3)), (1, .ref (ad 1)), (2, .int x2), (3, .int x3), (4, .int x4), (6, .int x6)]) dX2_read_127 (by decide) rfl ?_
          refine ww_iinc X (v := (x4 + 1)) (lv' := [(4, .int (x4 + 1)), (5, .int v7), (7, .int y0), (0, .ref (ad 3)), (1, .ref (ad 1)), (2, .int x2), (3, .int x3), (6, .int x6)]) dX2_read_129 6 rfl rfl (by decide) rfl ?_
          refine ww_goto X (tgt := 167) dX2_read_132 (by decide) ?_
          exact ww_sub (lv' := [(0, .ref (ad 3)), (1, .ref (ad 1)), (2, .int x2), (3, .int x3), (4, .int (x4 + 1)), (5, .int v7), (6, .int x6)]) [3, 4, 5, 6, 0, 1, 7] rfl (wX2_read_b167 X hK25 x2 x3 (x4 + 1) v7 x6 u1 hp)
        · have hp := hp.2 h6
          refine ww_sipush X (v := 300) dX2_read_109 (by decide) ?_
          refine ww_iload X dX2_read_112 7 rfl ?_
          refine ww_iadd X dX2_read_114 ?_
          exact ww_iret X hp dX2_read_115
  · have hp := hp.2 h3
    refine ww_iload X dX2_read_61 0 rfl ?_
    refine ww_callS_i X (As := [.int y0]) (rest := []) (kX2_letterOf l D ad cB cI cZ y0 u1 _ hp) (va_cwS 1 X.hts gX2_read_X2_letterOf rfl rfl rfl hn_X2_letterOf ⟨Nat.le_of_ble_eq_true rfl, Nat.le_of_ble_eq_true rfl⟩) rfl rfl (Nat.le_of_ble_eq_true rfl) dX2_read_63 (fun r9 u8 hp => ?_)
    refine ww_istore_n X (lv' := [(3, .int r9), (7, .int y0), (0, .ref (ad 3)), (1, .ref (ad 1)), (2, .int x2), (4, .int x4), (5, .int x5), (6, .int x6)]) dX2_read_66 (by decide) rfl ?_
    refine ww_iload_n X dX2_read_67 0 rfl ?_
    refine ww_callS_i X (As := [.int r9]) (rest := []) (kX2_isLetter l D ad cB cI cZ r9 u8 _ hp) (va_cwS 1 X.hts gX2_read_X2_isLetter rfl rfl rfl hn_X2_isLetter ⟨Nat.le_of_ble_eq_true rfl, Nat.le_of_ble_eq_true rfl⟩) rfl rfl (Nat.le_of_ble_eq_true rfl) dX2_read_68 (fun r11 u10 hp => ?_)
    refine ww_if_ne X (tgt := 80) dX2_read_71 (by decide) (fun h12 => ?_) (fun h12 => ?_)
    · have hp := hp.1 h12
      refine ww_iconst X (v := 0) dX2_read_80 (by decide) ?_
      refine ww_istore X (lv' := [(4, .int 0), (3, .int r9), (7, .int y0), (0, .ref (ad 3)), (1, .ref (ad 1)), (2, .int x2), (5, .int x5), (6, .int x6)]) dX2_read_81 (by decide) rfl ?_
      refine ww_iconst X (v := 0) dX2_read_83 (by decide) ?_
      refine ww_istore X (lv' := [(5, .int 0), (4, .int 0), (3, .int r9), (7, .int y0), (0, .ref (ad 3)), (1, .ref (ad 1)), (2, .int x2), (6, .int x6)]) dX2_read_84 (by decide) rfl ?_
      refine ww_goto X (tgt := 167) dX2_read_86 (by decide) ?_
      exact ww_sub (lv' := [(0, .ref (ad 3)), (1, .ref (ad 1)), (2, .int x2), (3, .int r9), (4, .int 0), (5, .int 0), (6, .int x6)]) [4, 5, 6, 2, 1, 0, 7] rfl (wX2_read_b167 X hK25 x2 r9 0 0 x6 u10 hp)
    · have hp := hp.2 h12
      refine ww_bipush X (v := 100) dX2_read_74 (by decide) ?_
      refine ww_iload X dX2_read_76 7 rfl ?_
      refine ww_iadd X dX2_read_78 ?_
      exact ww_iret X hp dX2_read_79
set_option maxHeartbeats 4000000 in
set_option maxRecDepth 100000 in
theorem wX2_read_b51 {p : Program} {l : Launch} {e : Env} {s : State} {m : MethodId} {args : Array Value} {below : List Frame} {meth : Method} {c : Code} {D : va_G} {A : Nat → Prop} {ad : Nat → Nat} {cB cI cZ : ClassId} {post : Int32 → Sg → Prop} {K25 : Int32 → Int32 → Int32 → Int32 → Int32 → Sg → Prop} (X : Cx p s m args meth c cX2_read 9 (some .int) RX2 wsX2_read D (tyL cB cI cZ) A) (hK25 : ∀ (x2 x3 x4 x5 x6 : Int32) (z : Sg), K25 x2 x3 x4 x5 x6 z → WW p l e rmX2_read s m args below meth c 9 D A (cW ad cB cI cZ) (QI below args s D (tyL cB cI cZ) (cW ad cB cI cZ) A post) z 25 [(0, .ref (ad 3)), (1, .ref (ad 1)), (2, .int x2), (3, .int x3), (4, .int x4), (5, .int x5), (6, .int x6)] []) (x2 x3 x4 x5 x6 : Int32) (z : Sg) (hp : pX2_read_b51 K25 post x2 x3 x4 x5 x6 z) : WW p l e rmX2_read s m args below meth c 9 D A (cW ad cB cI cZ) (QI below args s D (tyL cB cI cZ) (cW ad cB cI cZ) A post) z 51 [(0, .ref (ad 3)), (1, .ref (ad 1)), (2, .int x2), (3, .int x3), (4, .int x4), (5, .int x5), (6, .int x6)] [] := by
  unfold pX2_read_b51 at hp
  refine ww_iconst X (v := (-1)) dX2_read_51 (by decide) ?_
  exact wX2_read_b52 X hK25 x2 x3 x4 x5 x6 (-1) z hp
set_option maxHeartbeats 4000000 in
set_option maxRecDepth 100000 in
theorem wX2_read_b25 {p : Program} {l : Launch} {e : Env} {s : State} {m : MethodId} {args : Array Value} {below : List Frame} {meth : Method} {c : Code} {D : va_G} {A : Nat → Prop} {ad : Nat → Nat} {cB cI cZ : ClassId} {post : Int32 → Sg → Prop} {K25 : Int32 → Int32 → Int32 → Int32 → Int32 → Sg → Prop} (X : Cx p s m args meth c cX2_read 9 (some .int) RX2 wsX2_read D (tyL cB cI cZ) A) (hK25 : ∀ (x2 x3 x4 x5 x6 : Int32) (z : Sg), K25 x2 x3 x4 x5 x6 z → WW p l e rmX2_read s m args below meth c 9 D A (cW ad cB cI cZ) (QI below args s D (tyL cB cI cZ) (cW ad cB cI cZ) A post) z 25 [(0, .ref (ad 3)), (1, .ref (ad 1)), (2, .int x2), (3, .int x3), (4, .int x4), (5, .int x5), (6, .int x6)] []) (x2 x3 x4 x5 x6 : Int32) (z : Sg) (hp : pX2_read_b25 K25 post x2 x3 x4 x5 x6 z) : WW p l e rmX2_read s m args below meth c 9 D A (cW ad cB cI cZ) (QI below args s D (tyL cB cI cZ) (cW ad cB cI cZ) A post) z 25 [(0, .ref (ad 3)), (1, .ref (ad 1)), (2, .int x2), (3, .int x3), (4, .int x4), (5, .int x5), (6, .int x6)] [] := by
  unfold pX2_read_b25 at hp
  refine ww_iload X dX2_read_25 6 rfl ?_
  refine ww_iload_n X dX2_read_27 2 rfl ?_
  refine ww_icmp_gt X (tgt := 173) dX2_read_28 (by decide) (fun h1 => ?_) (fun h1 => ?_)
  · have hp := hp.1 h1
    refine ww_aload_n X dX2_read_173 0 rfl ?_
    refine ww_get X in_X2_read_X2 3 cg_3 rfl 1 (by decide) (X.wd 2 rfl) (v := .ref (ad 5)) rfl dX2_read_174 ?_
    refine ww_iconst X (v := 0) dX2_read_177 (by decide) ?_
    refine ww_aload_n X dX2_read_178 0 rfl ?_
    refine ww_get X in_X2_read_X2 3 cg_3 rfl 0 (by decide) (X.wd 7 rfl) (v := .ref (ad 4)) rfl dX2_read_179 ?_
    refine ww_iconst X (v := 0) dX2_read_182 (by decide) ?_
    refine ww_bipush X (v := 7) dX2_read_183 (by decide) ?_
    refine ww_copyA X (X.wd 3 rfl) (X.wd 4 rfl) (X.wd 5 rfl) (X.wd 6 rfl) 5 4 cg_5 cg_4 rfl rfl (Nat.le_of_ble_eq_true rfl) (Nat.le_of_ble_eq_true rfl) (sg' := (sR z 1 (va_cpy (z.2 2) (z.2 1) 0 0 7))) ca_4 (Nat.le_of_ble_eq_true rfl) (Nat.le_of_ble_eq_true rfl) dX2_read_185 ?_
    refine ww_iconst X (v := 0) dX2_read_188 (by decide) ?_
    exact ww_iret X hp dX2_read_189
  · have hp := hp.2 h1
    refine ww_iload X dX2_read_31 6 rfl ?_
    refine ww_iload_n X dX2_read_33 2 rfl ?_
    refine ww_icmp_ge X (tgt := 51) dX2_read_34 (by decide) (fun h2 => ?_) (fun h2 => ?_)
    · have hp := hp.1 h2
      exact wX2_read_b51 X hK25 x2 x3 x4 x5 x6 z hp
    · have hp := hp.2 h2
      refine ww_iload X dX2_read_37 6 rfl ?_
      refine ww_aload_n X dX2_read_39 1 rfl ?_
      refine ww_alen X 1 1 cg_1 rfl (v := 60) rfl dX2_read_40 ?_
      refine ww_icmp_ge X (tgt := 51) dX2_read_41 (by decide) (fun h3 => ?_) (fun h3 => ?_)
      · have hp := hp.1 h3
        exact wX2_read_b51 X hK25 x2 x3 x4 x5 x6 z hp
      · have hp := hp.2 h3
        refine ww_aload_n X dX2_read_44 1 rfl ?_
        refine ww_iload X dX2_read_45 6 rfl ?_
        obtain ⟨h4, hp⟩ := hp
        refine ww_iald X 1 1 cg_1 rfl (v := (gA z 0 x6)) h4 rfl dX2_read_47 ?_
        refine ww_goto X (tgt := 52) dX2_read_48 (by decide) ?_
        exact wX2_read_b52 X hK25 x2 x3 x4 x5 x6 (gA z 0 x6) z hp
set_option maxHeartbeats 4000000 in
set_option maxRecDepth 100000 in
theorem wX2_read_l25 {p : Program} {l : Launch} {e : Env} {s : State} {m : MethodId} {args : Array Value} {below : List Frame} {meth : Method} {c : Code} {D : va_G} {A : Nat → Prop} {ad : Nat → Nat} {cB cI cZ : ClassId} {post : Int32 → Sg → Prop}  (X : Cx p s m args meth c cX2_read 9 (some .int) RX2 wsX2_read D (tyL cB cI cZ) A)  (x2 x3 x4 x5 x6 : Int32) (z : Sg) (hp : pX2_read_l25  post x2 x3 x4 x5 x6 z) : WW p l e rmX2_read s m args below meth c 9 D A (cW ad cB cI cZ) (QI below args s D (tyL cB cI cZ) (cW ad cB cI cZ) A post) z 25 [(0, .ref (ad 3)), (1, .ref (ad 1)), (2, .int x2), (3, .int x3), (4, .int x4), (5, .int x5), (6, .int x6)] [] := by
  have key := lp_walk (F := (fun (K : Int32 × Int32 × Int32 × Int32 × Int32 → Sg → Prop) (a : Int32 × Int32 × Int32 × Int32 × Int32) (z : Sg) => pX2_read_b25 (fun (x2 x3 x4 x5 x6 : Int32) z => K (x2, x3, x4, x5, x6) z) post a.1 a.2.1 a.2.2.1 a.2.2.2.1 a.2.2.2.2 z)) (P := fun a z => WW p l e rmX2_read s m args below meth c 9 D A (cW ad cB cI cZ) (QI below args s D (tyL cB cI cZ) (cW ad cB cI cZ) A post) z 25 [(0, .ref (ad 3)), (1, .ref (ad 1)), (2, .int a.1), (3, .int a.2.1), (4, .int a.2.2.1), (5, .int a.2.2.2.1), (6, .int a.2.2.2.2)] []) (fun K hK a z hp => wX2_read_b25 X (fun x2 x3 x4 x5 x6 z h => hK (x2, x3, x4, x5, x6) z h) a.1 a.2.1 a.2.2.1 a.2.2.2.1 a.2.2.2.2 z hp)
  exact key (x2, x3, x4, x5, x6) z hp
set_option maxHeartbeats 4000000 in
set_option maxRecDepth 100000 in
theorem kX2_read (l : Launch) (D : va_G) (ad : Nat → Nat) (cB cI cZ : ClassId) (a2 : Int32) (z : Sg) (post : Int32 → Sg → Prop) (hp : pX2_read a2 z post) : Ci l D (tyL cB cI cZ) (cW ad cB cI cZ) yX2_read wsX2_read rmX2_read [.ref (ad 3), .ref (ad 1), .int a2] z post := by
  refine Ci.of (cc := cX2_read) (maxL := 9) (ret := (some .int)) (by decide) rfl (Nat.le_of_ble_eq_true rfl) ?_
  intro p e s m args below meth c A X
  have X : Cx p s m args meth c cX2_read 9 (some .int) RX2 wsX2_read D (tyL cB cI cZ) A := X
  show WW p l e rmX2_read s m args below meth c 9 D A (cW ad cB cI cZ) (QI below args s D (tyL cB cI cZ) (cW ad cB cI cZ) A post) z 0 [(0, .ref (ad 3)), (1, .ref (ad 1)), (2, .int a2)] []
  unfold pX2_read at hp
  obtain ⟨t1, hzt1, hTt1⟩ := X.hE.1.2.1
  refine ww_gets X hzt1 (X.wd 1 rfl) dX2_read_0 ?_
  refine ww_iconst X (v := 0) dX2_read_3 (by decide) ?_
  refine ww_aload_n X dX2_read_4 0 rfl ?_
  refine ww_get X in_X2_read_X2 3 cg_3 rfl 1 (by decide) (X.wd 2 rfl) (v := .ref (ad 5)) rfl dX2_read_5 ?_
  refine ww_iconst X (v := 0) dX2_read_8 (by decide) ?_
  refine ww_bipush X (v := 7) dX2_read_9 (by decide) ?_
  refine ww_copyT X (X.wd 3 rfl) (X.wd 4 rfl) (X.wd 5 rfl) (X.wd 6 rfl) hTt1 5 1 cg_5 rfl (sg' := (sR z 2 (va_cpy tb_FIRST (z.2 2) 0 0 7))) (by decide) ca_5 (Nat.le_of_ble_eq_true rfl) (Nat.le_of_ble_eq_true rfl) dX2_read_11 ?_
  refine ww_iconst X (v := (-1)) dX2_read_14 (by decide) ?_
  refine ww_istore_n X (lv' := [(3, .int (-1)), (0, .ref (ad 3)), (1, .ref (ad 1)), (2, .int a2)]) dX2_read_15 (by decide) rfl ?_
  refine ww_iconst X (v := 0) dX2_read_16 (by decide) ?_
  refine ww_istore X (lv' := [(4, .int 0), (3, .int (-1)), (0, .ref (ad 3)), (1, .ref (ad 1)), (2, .int a2)]) dX2_read_17 (by decide) rfl ?_
  refine ww_iconst X (v := 0) dX2_read_19 (by decide) ?_
  refine ww_istore X (lv' := [(5, .int 0), (4, .int 0), (3, .int (-1)), (0, .ref (ad 3)), (1, .ref (ad 1)), (2, .int a2)]) dX2_read_20 (by decide) rfl ?_
  refine ww_iconst X (v := 0) dX2_read_22 (by decide) ?_
  refine ww_istore X (lv' := [(6, .int 0), (5, .int 0), (4, .int 0), (3, .int (-1)), (0, .ref (ad 3)), (1, .ref (ad 1)), (2, .int a2)]) dX2_read_23 (by decide) rfl ?_
  exact ww_sub (lv' := [(0, .ref (ad 3)), (1, .ref (ad 1)), (2, .int a2), (3, .int (-1)), (4, .int 0), (5, .int 0), (6, .int 0)]) [4, 5, 6, 3, 2, 1, 0] rfl (wX2_read_l25 X  a2 (-1) 0 0 0 (sR z 2 (va_cpy tb_FIRST (z.2 2) 0 0 7)) hp)
set_option maxHeartbeats 4000000 in
set_option maxRecDepth 100000 in
theorem wX1_add_b17 {p : Program} {l : Launch} {e : Env} {s : State} {m : MethodId} {args : Array Value} {below : List Frame} {meth : Method} {c : Code} {D : va_G} {A : Nat → Prop} {ad : Nat → Nat} {cB cI cZ : ClassId} {post : Int32 → Sg → Prop}  (X : Cx p s m args meth c cX1_add 10 (some .int) RX1 wsX1_add D (tyL cB cI cZ) A)  (z : Sg) (hp : pX1_add_b17  post  z) : WW p l e rmX1_add s m args below meth c 10 D A (cW ad cB cI cZ) (QI below args s D (tyL cB cI cZ) (cW ad cB cI cZ) A post) z 17 [(0, .ref (ad 6))] [] := by
  unfold pX1_add_b17 at hp
  refine ww_sipush X (v := (-10000)) dX1_add_17 (by decide) ?_
  exact ww_iret X hp dX1_add_20
set_option maxHeartbeats 4000000 in
set_option maxRecDepth 100000 in
theorem kX1_add (l : Launch) (D : va_G) (ad : Nat → Nat) (cB cI cZ : ClassId) (a1 a2 a3 a4 a5 a6 a7 : Int32) (z : Sg) (post : Int32 → Sg → Prop) (hp : pX1_add a1 a2 a3 a4 a5 a6 a7 z post) : Ci l D (tyL cB cI cZ) (cW ad cB cI cZ) yX1_add wsX1_add rmX1_add [.ref (ad 6), .int a1, .int a2, .int a3, .int a4, .int a5, .int a6, .int a7] z post := by
  refine Ci.of (cc := cX1_add) (maxL := 10) (ret := (some .int)) (by decide) rfl (Nat.le_of_ble_eq_true rfl) ?_
  intro p e s m args below meth c A X
  have X : Cx p s m args meth c cX1_add 10 (some .int) RX1 wsX1_add D (tyL cB cI cZ) A := X
  show WW p l e rmX1_add s m args below meth c 10 D A (cW ad cB cI cZ) (QI below args s D (tyL cB cI cZ) (cW ad cB cI cZ) A post) z 0 [(0, .ref (ad 6)), (1, .int a1), (2, .int a2), (3, .int a3), (4, .int a4), (5, .int a5), (6, .int a6), (7, .int a7)] []
  unfold pX1_add at hp
  refine ww_aload_n X dX1_add_0 0 rfl ?_
  refine ww_get X in_X1_add_X1 6 cg_6 rfl 3 (by decide) (X.wd 1 rfl) (v := .int (z.1 11)) rfl dX1_add_1 ?_
  refine ww_if_lt X (tgt := 17) dX1_add_4 (by decide) (fun h1 => ?_) (fun h1 => ?_)
  · have hp := hp.1 h1
    exact ww_sub (lv' := [(0, .ref (ad 6))]) [0] rfl (wX1_add_b17 X   z hp)
  · have hp := hp.2 h1
    refine ww_aload_n X dX1_add_7 0 rfl ?_
    refine ww_get X in_X1_add_X1 6 cg_6 rfl 3 (by decide) (X.wd 1 rfl) (v := .int (z.1 11)) rfl dX1_add_8 ?_
    refine ww_sipush X (v := 200) dX1_add_11 (by decide) ?_
    refine ww_icmp_lt X (tgt := 21) dX1_add_14 (by decide) (fun h2 => ?_) (fun h2 => ?_)
    · have hp := hp.1 h2
      refine ww_aload_n X dX1_add_21 0 rfl ?_
      refine ww_get X in_X1_add_X1 6 cg_6 rfl 3 (by decide) (X.wd 1 rfl) (v := .int (z.1 11)) rfl dX1_add_22 ?_
      refine ww_top (fun v3 hv3 => ?_)
      have hp := hp v3 hv3
      refine ww_istore X (lv' := [(8, .int v3), (0, .ref (ad 6)), (1, .int a1), (2, .int a2), (3, .int a3), (4, .int a4), (5, .int a5), (6, .int a6), (7, .int a7)]) dX1_add_25 (by decide) rfl ?_
      refine ww_iload X dX1_add_27 0 rfl ?_
      refine ww_iconst X (v := 5) dX1_add_29 (by decide) ?_
      refine ww_imul X dX1_add_30 ?_
      refine ww_top (fun v4 hv4 => ?_)
      have hp := hp v4 hv4
      refine ww_istore X (lv' := [(9, .int v4), (8, .int v3), (0, .ref (ad 6)), (1, .int a1), (2, .int a2), (3, .int a3), (4, .int a4), (5, .int a5), (6, .int a6), (7, .int a7)]) dX1_add_31 (by decide) rfl ?_
      refine ww_aload_n X dX1_add_33 2 rfl ?_
      refine ww_get X in_X1_add_X1 6 cg_6 rfl 0 (by decide) (X.wd 2 rfl) (v := .ref (ad 7)) rfl dX1_add_34 ?_
      refine ww_iload X dX1_add_37 1 rfl ?_
      refine ww_iload_n X dX1_add_39 3 rfl ?_
      obtain ⟨h5, hp⟩ := hp
      refine ww_iast X 7 1 cg_7 rfl (sg' := (sA z 3 v3 a1)) h5 ca_7 dX1_add_40 ?_
      refine ww_aload_n X dX1_add_41 2 rfl ?_
      refine ww_get X in_X1_add_X1 6 cg_6 rfl 1 (by decide) (X.wd 3 rfl) (v := .ref (ad 8)) rfl dX1_add_42 ?_
      refine ww_iload X dX1_add_45 1 rfl ?_
      refine ww_iload_n X dX1_add_47 4 rfl ?_
      obtain ⟨h6, hp⟩ := hp
      refine ww_iast X 8 1 cg_8 rfl (sg' := (sA (sA z 3 v3 a1) 4 v3 a2)) h6 ca_8 dX1_add_48 ?_
      refine ww_aload_n X dX1_add_49 2 rfl ?_
      refine ww_get X in_X1_add_X1 6 cg_6 rfl 2 (by decide) (X.wd 4 rfl) (v := .ref (ad 9)) rfl dX1_add_50 ?_
      refine ww_iload X dX1_add_53 0 rfl ?_
      refine ww_iload_n X dX1_add_55 5 rfl ?_
      refine ww_zz (fun w8 hw8 => ?_)
      have hp := hp w8 hw8
      obtain ⟨h7, hp⟩ := hp
      refine ww_iast X 9 1 cg_9 rfl (sg' := (sA w8 5 v4 a3)) h7 ca_9 dX1_add_56 ?_
      refine ww_aload_n X dX1_add_57 2 rfl ?_
      refine ww_get X in_X1_add_X1 6 cg_6 rfl 2 (by decide) (X.wd 4 rfl) (v := .ref (ad 9)) rfl dX1_add_58 ?_
      refine ww_iload X dX1_add_61 0 rfl ?_
      refine ww_iconst X (v := 1) dX1_add_63 (by decide) ?_
      refine ww_iadd X dX1_add_64 ?_
      refine ww_iload X dX1_add_65 6 rfl ?_
      obtain ⟨h9, hp⟩ := hp
      refine ww_iast X 9 1 cg_9 rfl (sg' := (sA (sA w8 5 v4 a3) 5 (v4 + 1) a4)) h9 ca_9 dX1_add_67 ?_
      refine ww_aload_n X dX1_add_68 2 rfl ?_
      refine ww_get X in_X1_add_X1 6 cg_6 rfl 2 (by decide) (X.wd 4 rfl) (v := .ref (ad 9)) rfl dX1_add_69 ?_
      refine ww_iload X dX1_add_72 0 rfl ?_
      refine ww_iconst X (v := 2) dX1_add_74 (by decide) ?_
      refine ww_iadd X dX1_add_75 ?_
      refine ww_iload X dX1_add_76 7 rfl ?_
      refine ww_zz (fun w11 hw11 => ?_)
      have hp := hp w11 hw11
      obtain ⟨h10, hp⟩ := hp
      refine ww_iast X 9 1 cg_9 rfl (sg' := (sA w11 5 (v4 + 2) a5)) h10 ca_9 dX1_add_78 ?_
      refine ww_aload_n X dX1_add_79 2 rfl ?_
      refine ww_get X in_X1_add_X1 6 cg_6 rfl 2 (by decide) (X.wd 4 rfl) (v := .ref (ad 9)) rfl dX1_add_80 ?_
      refine ww_iload X dX1_add_83 0 rfl ?_
      refine ww_iconst X (v := 3) dX1_add_85 (by decide) ?_
      refine ww_iadd X dX1_add_86 ?_
      refine ww_iload X dX1_add_87 8 rfl ?_
      obtain ⟨h12, hp⟩ := hp
      refine ww_iast X 9 1 cg_9 rfl (sg' := (sA (sA w11 5 (v4 + 2) a5) 5 (v4 + 3) a6)) h12 ca_9 dX1_add_89 ?_
      refine ww_aload_n X dX1_add_90 2 rfl ?_
      refine ww_get X in_X1_add_X1 6 cg_6 rfl 2 (by decide) (X.wd 4 rfl) (v := .ref (ad 9)) rfl dX1_add_91 ?_
      refine ww_iload X dX1_add_94 0 rfl ?_
      refine ww_iconst X (v := 4) dX1_add_96 (by decide) ?_
      refine ww_iadd X dX1_add_97 ?_
      refine ww_iload X dX1_add_98 9 rfl ?_
      refine ww_zz (fun w14 hw14 => ?_)
      have hp := hp w14 hw14
      obtain ⟨h13, hp⟩ := hp
      refine ww_iast X 9 1 cg_9 rfl (sg' := (sA w14 5 (v4 + 4) a7)) h13 ca_9 dX1_add_100 ?_
      refine ww_aload_n X dX1_add_101 2 rfl ?_
      refine ww_iload X dX1_add_102 1 rfl ?_
      refine ww_iconst X (v := 1) dX1_add_104 (by decide) ?_
      refine ww_iadd X dX1_add_105 ?_
      refine ww_put X in_X1_add_X1 tyX1 tyX1_ok nmX1 6 cg_6 rfl 3 (by decide) (X.wd 1 rfl) rfl pd_X1_3 (Nat.le_of_ble_eq_true rfl) (sg' := (sS (sA w14 5 (v4 + 4) a7) 11 (v3 + 1))) cs_11 dX1_add_106 ?_
      refine ww_iload X dX1_add_109 1 rfl ?_
      exact ww_iret X hp dX1_add_111
    · have hp := hp.2 h2
      exact ww_sub (lv' := [(0, .ref (ad 6))]) [0] rfl (wX1_add_b17 X   z hp)
set_option maxHeartbeats 4000000 in
set_option maxRecDepth 100000 in
theorem wX1_value_b29 {p : Program} {l : Launch} {e : Env} {s : State} {m : MethodId} {args : Array Value} {below : List Frame} {meth : Method} {c : Code} {D : va_G} {A : Nat → Prop} {ad : Nat → Nat} {cB cI cZ : ClassId} {post : Int32 → Sg → Prop}  (X : Cx p s m args meth c cX1_value 4 (some .int) RX1 wsX1_value D (tyL cB cI cZ) A)  (y0 : Int32) (z : Sg) (hp : pX1_value_b29  post y0 z) : WW p l e rmX1_value s m args below meth c 4 D A (cW ad cB cI cZ) (QI below args s D (tyL cB cI cZ) (cW ad cB cI cZ) A post) z 29 [(0, .ref (ad 6))] [.int y0] := by
  unfold pX1_value_b29 at hp
  exact ww_iret X hp dX1_value_29
set_option maxHeartbeats 4000000 in
set_option maxRecDepth 100000 in
theorem wX1_value_b28 {p : Program} {l : Launch} {e : Env} {s : State} {m : MethodId} {args : Array Value} {below : List Frame} {meth : Method} {c : Code} {D : va_G} {A : Nat → Prop} {ad : Nat → Nat} {cB cI cZ : ClassId} {post : Int32 → Sg → Prop}  (X : Cx p s m args meth c cX1_value 4 (some .int) RX1 wsX1_value D (tyL cB cI cZ) A)  (z : Sg) (hp : pX1_value_b28  post  z) : WW p l e rmX1_value s m args below meth c 4 D A (cW ad cB cI cZ) (QI below args s D (tyL cB cI cZ) (cW ad cB cI cZ) A post) z 28 [(0, .ref (ad 6))] [] := by
  unfold pX1_value_b28 at hp
  refine ww_iconst X (v := 0) dX1_value_28 (by decide) ?_
  exact wX1_value_b29 X  0 z hp
set_option maxHeartbeats 4000000 in
set_option maxRecDepth 100000 in
theorem kX1_value (l : Launch) (D : va_G) (ad : Nat → Nat) (cB cI cZ : ClassId) (a1 a2 : Int32) (z : Sg) (post : Int32 → Sg → Prop) (hp : pX1_value a1 a2 z post) : Ci l D (tyL cB cI cZ) (cW ad cB cI cZ) yX1_value wsX1_value rmX1_value [.ref (ad 6), .int a1, .int a2] z post := by
  refine Ci.of (cc := cX1_value) (maxL := 4) (ret := (some .int)) (by decide) rfl (Nat.le_of_ble_eq_true rfl) ?_
  intro p e s m args below meth c A X
  have X : Cx p s m args meth c cX1_value 4 (some .int) RX1 wsX1_value D (tyL cB cI cZ) A := X
  show WW p l e rmX1_value s m args below meth c 4 D A (cW ad cB cI cZ) (QI below args s D (tyL cB cI cZ) (cW ad cB cI cZ) A post) z 0 [(0, .ref (ad 6)), (1, .int a1), (2, .int a2)] []
  unfold pX1_value at hp
  refine ww_iload_n X dX1_value_0 1 rfl ?_
  refine ww_iconst X (v := 5) dX1_value_1 (by decide) ?_
  refine ww_imul X dX1_value_2 ?_
  refine ww_iload_n X dX1_value_3 2 rfl ?_
  refine ww_iadd X dX1_value_4 ?_
  refine ww_top (fun v1 hv1 => ?_)
  have hp := hp v1 hv1
  refine ww_istore_n X (lv' := [(3, .int v1), (0, .ref (ad 6)), (1, .int a1), (2, .int a2)]) dX1_value_5 (by decide) rfl ?_
  refine ww_iload_n X dX1_value_6 0 rfl ?_
  refine ww_if_lt X (tgt := 28) dX1_value_7 (by decide) (fun h2 => ?_) (fun h2 => ?_)
  · have hp := hp.1 h2
    exact ww_sub (lv' := [(0, .ref (ad 6))]) [1] rfl (wX1_value_b28 X   z hp)
  · have hp := hp.2 h2
    refine ww_iload_n X dX1_value_10 0 rfl ?_
    refine ww_aload_n X dX1_value_11 1 rfl ?_
    refine ww_get X in_X1_value_X1 6 cg_6 rfl 2 (by decide) (X.wd 1 rfl) (v := .ref (ad 9)) rfl dX1_value_12 ?_
    refine ww_alen X 9 1 cg_9 rfl (v := 1000) rfl dX1_value_15 ?_
    refine ww_icmp_ge X (tgt := 28) dX1_value_16 (by decide) (fun h3 => ?_) (fun h3 => ?_)
    · have hp := hp.1 h3
      exact ww_sub (lv' := [(0, .ref (ad 6))]) [1] rfl (wX1_value_b28 X   z hp)
    · have hp := hp.2 h3
      refine ww_aload_n X dX1_value_19 1 rfl ?_
      refine ww_get X in_X1_value_X1 6 cg_6 rfl 2 (by decide) (X.wd 1 rfl) (v := .ref (ad 9)) rfl dX1_value_20 ?_
      refine ww_iload_n X dX1_value_23 0 rfl ?_
      obtain ⟨h4, hp⟩ := hp
      refine ww_iald X 9 1 cg_9 rfl (v := (gA z 5 v1)) h4 rfl dX1_value_24 ?_
      refine ww_goto X (tgt := 29) dX1_value_25 (by decide) ?_
      exact ww_sub (lv' := [(0, .ref (ad 6))]) [1] rfl (wX1_value_b29 X  (gA z 5 v1) z hp)
