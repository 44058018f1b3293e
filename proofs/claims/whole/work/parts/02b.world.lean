def cW (ad : Nat → Nat) (cB cI cZ : ClassId) (z : Sg) : va_W := [(ad 0, .inr (4, [.ref (ad 1), .int (z.1 0), .ref (ad 2), .ref (ad 12), .ref (ad 18), .ref (ad 24), .ref (ad 25), .int (z.1 1), .int (z.1 2), .int (z.1 3), .int (z.1 4)])), (ad 1, .inl (cI, 60, .inl (z.2 0))), (ad 2, .inr (3, [.ref (ad 3), .ref (ad 6), .ref (ad 10), .int (z.1 5), .ref (ad 11), .int (z.1 6), .int (z.1 7), .int (z.1 8), .int (z.1 9), .int (z.1 10)])), (ad 3, .inr (2, [.ref (ad 4), .ref (ad 5)])), (ad 4, .inl (cI, 7, .inl (z.2 1))), (ad 5, .inl (cI, 7, .inl (z.2 2))), (ad 6, .inr (1, [.ref (ad 7), .ref (ad 8), .ref (ad 9), .int (z.1 11)])), (ad 7, .inl (cI, 200, .inl (z.2 3))), (ad 8, .inl (cI, 200, .inl (z.2 4))), (ad 9, .inl (cI, 1000, .inl (z.2 5))), (ad 10, .inl (cI, 5, .inl (z.2 6))), (ad 11, .inl (cI, 192, .inl (z.2 7))), (ad 12, .inr (0, [.ref (ad 13), .ref (ad 14), .ref (ad 15), .ref (ad 16), .ref (ad 17), .int (z.1 12), .int (z.1 13)])), (ad 13, .inl (cI, 24, .inl (z.2 8))), (ad 14, .inl (cZ, 24, .inl (z.2 9))), (ad 15, .inl (cI, 24, .inl (z.2 10))), (ad 16, .inl (cI, 24, .inl (z.2 11))), (ad 17, .inl (cI, 24, .inl (z.2 12))), (ad 18, .inr (0, [.ref (ad 19), .ref (ad 20), .ref (ad 21), .ref (ad 22), .ref (ad 23), .int (z.1 14), .int (z.1 15)])), (ad 19, .inl (cI, 24, .inl (z.2 13))), (ad 20, .inl (cZ, 24, .inl (z.2 14))), (ad 21, .inl (cI, 24, .inl (z.2 15))), (ad 22, .inl (cI, 24, .inl (z.2 16))), (ad 23, .inl (cI, 24, .inl (z.2 17))), (ad 24, .inl (cI, 24, .inl (z.2 18))), (ad 25, .inl (cI, 24, .inl (z.2 19)))]
def mW (ad : Nat → Nat) (cB cI cZ : ClassId) (z : Sg) : va_W := [(ad 0, .inr (5, [.ref (ad 1), .int (z.1 0), .ref (ad 2), .ref (ad 3), .int (z.1 1), .int (z.1 2), .int (z.1 3), .int (z.1 4), .ref (ad 4), .ref (ad 5), .ref (ad 6), .ref (ad 7), .ref (ad 8), .ref (ad 9), .int (z.1 5), .int (z.1 6), .ref (ad 10), .ref (ad 11), .ref (ad 12), .ref (ad 13), .ref (ad 14)])), (ad 1, .inl (cB, 60, .inl (z.2 0))), (ad 2, .inl (cI, 7, .inl (z.2 1))), (ad 3, .inl (cI, 7, .inl (z.2 2))), (ad 4, .inl (cI, 24, .inl (z.2 3))), (ad 5, .inl (cI, 24, .inl (z.2 4))), (ad 6, .inl (cI, 5, .inl (z.2 5))), (ad 7, .inl (cI, 200, .inl (z.2 6))), (ad 8, .inl (cI, 200, .inl (z.2 7))), (ad 9, .inl (cI, 1000, .inl (z.2 8))), (ad 10, .inl (cZ, 24, .inl (z.2 9))), (ad 11, .inl (cZ, 24, .inl (z.2 10))), (ad 12, .inl (cI, 24, .inl (z.2 11))), (ad 13, .inl (cI, 24, .inl (z.2 12))), (ad 14, .inl (cI, 24, .inl (z.2 13)))]
theorem cg_0 {ad : Nat → Nat} {cB cI cZ : ClassId} {z : Sg} : (cW ad cB cI cZ z)[0]? = some (ad 0, .inr (4, [.ref (ad 1), .int (z.1 0), .ref (ad 2), .ref (ad 12), .ref (ad 18), .ref (ad 24), .ref (ad 25), .int (z.1 1), .int (z.1 2), .int (z.1 3), .int (z.1 4)])) := rfl
theorem cs_0 {ad : Nat → Nat} {cB cI cZ : ClassId} {z : Sg} {v : Int32} : (cW ad cB cI cZ z).set 0 (ad 0, .inr (4, ([.ref (ad 1), .int (z.1 0), .ref (ad 2), .ref (ad 12), .ref (ad 18), .ref (ad 24), .ref (ad 25), .int (z.1 1), .int (z.1 2), .int (z.1 3), .int (z.1 4)] : List Value).set 1 (.int v))) = cW ad cB cI cZ (sS z 0 v) := rfl
theorem cs_1 {ad : Nat → Nat} {cB cI cZ : ClassId} {z : Sg} {v : Int32} : (cW ad cB cI cZ z).set 0 (ad 0, .inr (4, ([.ref (ad 1), .int (z.1 0), .ref (ad 2), .ref (ad 12), .ref (ad 18), .ref (ad 24), .ref (ad 25), .int (z.1 1), .int (z.1 2), .int (z.1 3), .int (z.1 4)] : List Value).set 7 (.int v))) = cW ad cB cI cZ (sS z 1 v) := rfl
theorem cs_2 {ad : Nat → Nat} {cB cI cZ : ClassId} {z : Sg} {v : Int32} : (cW ad cB cI cZ z).set 0 (ad 0, .inr (4, ([.ref (ad 1), .int (z.1 0), .ref (ad 2), .ref (ad 12), .ref (ad 18), .ref (ad 24), .ref (ad 25), .int (z.1 1), .int (z.1 2), .int (z.1 3), .int (z.1 4)] : List Value).set 8 (.int v))) = cW ad cB cI cZ (sS z 2 v) := rfl
theorem cs_3 {ad : Nat → Nat} {cB cI cZ : ClassId} {z : Sg} {v : Int32} : (cW ad cB cI cZ z).set 0 (ad 0, .inr (4, ([.ref (ad 1), .int (z.1 0), .ref (ad 2), .ref (ad 12), .ref (ad 18), .ref (ad 24), .ref (ad 25), .int (z.1 1), .int (z.1 2), .int (z.1 3), .int (z.1 4)] : List Value).set 9 (.int v))) = cW ad cB cI cZ (sS z 3 v) := rfl
theorem cs_4 {ad : Nat → Nat} {cB cI cZ : ClassId} {z : Sg} {v : Int32} : (cW ad cB cI cZ z).set 0 (ad 0, .inr (4, ([.ref (ad 1), .int (z.1 0), .ref (ad 2), .ref (ad 12), .ref (ad 18), .ref (ad 24), .ref (ad 25), .int (z.1 1), .int (z.1 2), .int (z.1 3), .int (z.1 4)] : List Value).set 10 (.int v))) = cW ad cB cI cZ (sS z 4 v) := rfl
theorem cg_1 {ad : Nat → Nat} {cB cI cZ : ClassId} {z : Sg} : (cW ad cB cI cZ z)[1]? = some (ad 1, .inl (cI, 60, .inl (z.2 0))) := rfl
theorem ca_1 {ad : Nat → Nat} {cB cI cZ : ClassId} {z : Sg} {f : Nat → Int32} : (cW ad cB cI cZ z).set 1 (ad 1, .inl (cI, 60, .inl f)) = cW ad cB cI cZ (sR z 0 f) := rfl
theorem cg_2 {ad : Nat → Nat} {cB cI cZ : ClassId} {z : Sg} : (cW ad cB cI cZ z)[2]? = some (ad 2, .inr (3, [.ref (ad 3), .ref (ad 6), .ref (ad 10), .int (z.1 5), .ref (ad 11), .int (z.1 6), .int (z.1 7), .int (z.1 8), .int (z.1 9), .int (z.1 10)])) := rfl
theorem cs_5 {ad : Nat → Nat} {cB cI cZ : ClassId} {z : Sg} {v : Int32} : (cW ad cB cI cZ z).set 2 (ad 2, .inr (3, ([.ref (ad 3), .ref (ad 6), .ref (ad 10), .int (z.1 5), .ref (ad 11), .int (z.1 6), .int (z.1 7), .int (z.1 8), .int (z.1 9), .int (z.1 10)] : List Value).set 3 (.int v))) = cW ad cB cI cZ (sS z 5 v) := rfl
theorem cs_6 {ad : Nat → Nat} {cB cI cZ : ClassId} {z : Sg} {v : Int32} : (cW ad cB cI cZ z).set 2 (ad 2, .inr (3, ([.ref (ad 3), .ref (ad 6), .ref (ad 10), .int (z.1 5), .ref (ad 11), .int (z.1 6), .int (z.1 7), .int (z.1 8), .int (z.1 9), .int (z.1 10)] : List Value).set 5 (.int v))) = cW ad cB cI cZ (sS z 6 v) := rfl
theorem cs_7 {ad : Nat → Nat} {cB cI cZ : ClassId} {z : Sg} {v : Int32} : (cW ad cB cI cZ z).set 2 (ad 2, .inr (3, ([.ref (ad 3), .ref (ad 6), .ref (ad 10), .int (z.1 5), .ref (ad 11), .int (z.1 6), .int (z.1 7), .int (z.1 8), .int (z.1 9), .int (z.1 10)] : List Value).set 6 (.int v))) = cW ad cB cI cZ (sS z 7 v) := rfl
theorem cs_8 {ad : Nat → Nat} {cB cI cZ : ClassId} {z : Sg} {v : Int32} : (cW ad cB cI cZ z).set 2 (ad 2, .inr (3, ([.ref (ad 3), .ref (ad 6), .ref (ad 10), .int (z.1 5), .ref (ad 11), .int (z.1 6), .int (z.1 7), .int (z.1 8), .int (z.1 9), .int (z.1 10)] : List Value).set 7 (.int v))) = cW ad cB cI cZ (sS z 8 v) := rfl
theorem cs_9 {ad : Nat → Nat} {cB cI cZ : ClassId} {z : Sg} {v : Int32} : (cW ad cB cI cZ z).set 2 (ad 2, .inr (3, ([.ref (ad 3), .ref (ad 6), .ref (ad 10), .int (z.1 5), .ref (ad 11), .int (z.1 6), .int (z.1 7), .int (z.1 8), .int (z.1 9), .int (z.1 10)] : List Value).set 8 (.int v))) = cW ad cB cI cZ (sS z 9 v) := rfl
theorem cs_10 {ad : Nat → Nat} {cB cI cZ : ClassId} {z : Sg} {v : Int32} : (cW ad cB cI cZ z).set 2 (ad 2, .inr (3, ([.ref (ad 3), .ref (ad 6), .ref (ad 10), .int (z.1 5), .ref (ad 11), .int (z.1 6), .int (z.1 7), .int (z.1 8), .int (z.1 9), .int (z.1 10)] : List Value).set 9 (.int v))) = cW ad cB cI cZ (sS z 10 v) := rfl
theorem cg_3 {ad : Nat → Nat} {cB cI cZ : ClassId} {z : Sg} : (cW ad cB cI cZ z)[3]? = some (ad 3, .inr (2, [.ref (ad 4), .ref (ad 5)])) := rfl
theorem cg_4 {ad : Nat → Nat} {cB cI cZ : ClassId} {z : Sg} : (cW ad cB cI cZ z)[4]? = some (ad 4, .inl (cI, 7, .inl (z.2 1))) := rfl
theorem ca_4 {ad : Nat → Nat} {cB cI cZ : ClassId} {z : Sg} {f : Nat → Int32} : (cW ad cB cI cZ z).set 4 (ad 4, .inl (cI, 7, .inl f)) = cW ad cB cI cZ (sR z 1 f) := rfl
theorem cg_5 {ad : Nat → Nat} {cB cI cZ : ClassId} {z : Sg} : (cW ad cB cI cZ z)[5]? = some (ad 5, .inl (cI, 7, .inl (z.2 2))) := rfl
theorem ca_5 {ad : Nat → Nat} {cB cI cZ : ClassId} {z : Sg} {f : Nat → Int32} : (cW ad cB cI cZ z).set 5 (ad 5, .inl (cI, 7, .inl f)) = cW ad cB cI cZ (sR z 2 f) := rfl
theorem cg_6 {ad : Nat → Nat} {cB cI cZ : ClassId} {z : Sg} : (cW ad cB cI cZ z)[6]? = some (ad 6, .inr (1, [.ref (ad 7), .ref (ad 8), .ref (ad 9), .int (z.1 11)])) := rfl
theorem cs_11 {ad : Nat → Nat} {cB cI cZ : ClassId} {z : Sg} {v : Int32} : (cW ad cB cI cZ z).set 6 (ad 6, .inr (1, ([.ref (ad 7), .ref (ad 8), .ref (ad 9), .int (z.1 11)] : List Value).set 3 (.int v))) = cW ad cB cI cZ (sS z 11 v) := rfl
theorem cg_7 {ad : Nat → Nat} {cB cI cZ : ClassId} {z : Sg} : (cW ad cB cI cZ z)[7]? = some (ad 7, .inl (cI, 200, .inl (z.2 3))) := rfl
theorem ca_7 {ad : Nat → Nat} {cB cI cZ : ClassId} {z : Sg} {f : Nat → Int32} : (cW ad cB cI cZ z).set 7 (ad 7, .inl (cI, 200, .inl f)) = cW ad cB cI cZ (sR z 3 f) := rfl
theorem cg_8 {ad : Nat → Nat} {cB cI cZ : ClassId} {z : Sg} : (cW ad cB cI cZ z)[8]? = some (ad 8, .inl (cI, 200, .inl (z.2 4))) := rfl
theorem ca_8 {ad : Nat → Nat} {cB cI cZ : ClassId} {z : Sg} {f : Nat → Int32} : (cW ad cB cI cZ z).set 8 (ad 8, .inl (cI, 200, .inl f)) = cW ad cB cI cZ (sR z 4 f) := rfl
theorem cg_9 {ad : Nat → Nat} {cB cI cZ : ClassId} {z : Sg} : (cW ad cB cI cZ z)[9]? = some (ad 9, .inl (cI, 1000, .inl (z.2 5))) := rfl
theorem ca_9 {ad : Nat → Nat} {cB cI cZ : ClassId} {z : Sg} {f : Nat → Int32} : (cW ad cB cI cZ z).set 9 (ad 9, .inl (cI, 1000, .inl f)) = cW ad cB cI cZ (sR z 5 f) := rfl
theorem cg_10 {ad : Nat → Nat} {cB cI cZ : ClassId} {z : Sg} : (cW ad cB cI cZ z)[10]? = some (ad 10, .inl (cI, 5, .inl (z.2 6))) := rfl
theorem ca_10 {ad : Nat → Nat} {cB cI cZ : ClassId} {z : Sg} {f : Nat → Int32} : (cW ad cB cI cZ z).set 10 (ad 10, .inl (cI, 5, .inl f)) = cW ad cB cI cZ (sR z 6 f) := rfl
theorem cg_11 {ad : Nat → Nat} {cB cI cZ : ClassId} {z : Sg} : (cW ad cB cI cZ z)[11]? = some (ad 11, .inl (cI, 192, .inl (z.2 7))) := rfl
theorem ca_11 {ad : Nat → Nat} {cB cI cZ : ClassId} {z : Sg} {f : Nat → Int32} : (cW ad cB cI cZ z).set 11 (ad 11, .inl (cI, 192, .inl f)) = cW ad cB cI cZ (sR z 7 f) := rfl
theorem cg_12 {ad : Nat → Nat} {cB cI cZ : ClassId} {z : Sg} : (cW ad cB cI cZ z)[12]? = some (ad 12, .inr (0, [.ref (ad 13), .ref (ad 14), .ref (ad 15), .ref (ad 16), .ref (ad 17), .int (z.1 12), .int (z.1 13)])) := rfl
theorem cs_12 {ad : Nat → Nat} {cB cI cZ : ClassId} {z : Sg} {v : Int32} : (cW ad cB cI cZ z).set 12 (ad 12, .inr (0, ([.ref (ad 13), .ref (ad 14), .ref (ad 15), .ref (ad 16), .ref (ad 17), .int (z.1 12), .int (z.1 13)] : List Value).set 5 (.int v))) = cW ad cB cI cZ (sS z 12 v) := rfl
theorem cs_13 {ad : Nat → Nat} {cB cI cZ : ClassId} {z : Sg} {v : Int32} : (cW ad cB cI cZ z).set 12 (ad 12, .inr (0, ([.ref (ad 13), .ref (ad 14), .ref (ad 15), .ref (ad 16), .ref (ad 17), .int (z.1 12), .int (z.1 13)] : List Value).set 6 (.int v))) = cW ad cB cI cZ (sS z 13 v) := rfl
theorem cg_13 {ad : Nat → Nat} {cB cI cZ : ClassId} {z : Sg} : (cW ad cB cI cZ z)[13]? = some (ad 13, .inl (cI, 24, .inl (z.2 8))) := rfl
theorem ca_13 {ad : Nat → Nat} {cB cI cZ : ClassId} {z : Sg} {f : Nat → Int32} : (cW ad cB cI cZ z).set 13 (ad 13, .inl (cI, 24, .inl f)) = cW ad cB cI cZ (sR z 8 f) := rfl
theorem cg_14 {ad : Nat → Nat} {cB cI cZ : ClassId} {z : Sg} : (cW ad cB cI cZ z)[14]? = some (ad 14, .inl (cZ, 24, .inl (z.2 9))) := rfl
theorem ca_14 {ad : Nat → Nat} {cB cI cZ : ClassId} {z : Sg} {f : Nat → Int32} : (cW ad cB cI cZ z).set 14 (ad 14, .inl (cZ, 24, .inl f)) = cW ad cB cI cZ (sR z 9 f) := rfl
theorem cg_15 {ad : Nat → Nat} {cB cI cZ : ClassId} {z : Sg} : (cW ad cB cI cZ z)[15]? = some (ad 15, .inl (cI, 24, .inl (z.2 10))) := rfl
theorem ca_15 {ad : Nat → Nat} {cB cI cZ : ClassId} {z : Sg} {f : Nat → Int32} : (cW ad cB cI cZ z).set 15 (ad 15, .inl (cI, 24, .inl f)) = cW ad cB cI cZ (sR z 10 f) := rfl
theorem cg_16 {ad : Nat → Nat} {cB cI cZ : ClassId} {z : Sg} : (cW ad cB cI cZ z)[16]? = some (ad 16, .inl (cI, 24, .inl (z.2 11))) := rfl
theorem ca_16 {ad : Nat → Nat} {cB cI cZ : ClassId} {z : Sg} {f : Nat → Int32} : (cW ad cB cI cZ z).set 16 (ad 16, .inl (cI, 24, .inl f)) = cW ad cB cI cZ (sR z 11 f) := rfl
theorem cg_17 {ad : Nat → Nat} {cB cI cZ : ClassId} {z : Sg} : (cW ad cB cI cZ z)[17]? = some (ad 17, .inl (cI, 24, .inl (z.2 12))) := rfl
theorem ca_17 {ad : Nat → Nat} {cB cI cZ : ClassId} {z : Sg} {f : Nat → Int32} : (cW ad cB cI cZ z).set 17 (ad 17, .inl (cI, 24, .inl f)) = cW ad cB cI cZ (sR z 12 f) := rfl
theorem cg_18 {ad : Nat → Nat} {cB cI cZ : ClassId} {z : Sg} : (cW ad cB cI cZ z)[18]? = some (ad 18, .inr (0, [.ref (ad 19), .ref (ad 20), .ref (ad 21), .ref (ad 22), .ref (ad 23), .int (z.1 14), .int (z.1 15)])) := rfl
theorem cs_14 {ad : Nat → Nat} {cB cI cZ : ClassId} {z : Sg} {v : Int32} : (cW ad cB cI cZ z).set 18 (ad 18, .inr (0, ([.ref (ad 19), .ref (ad 20), .ref (ad 21), .ref (ad 22), .ref (ad 23), .int (z.1 14), .int (z.1 15)] : List Value).set 5 (.int v))) = cW ad cB cI cZ (sS z 14 v) := rfl
theorem cs_15 {ad : Nat → Nat} {cB cI cZ : ClassId} {z : Sg} {v : Int32} : (cW ad cB cI cZ z).set 18 (ad 18, .inr (0, ([.ref (ad 19), .ref (ad 20), .ref (ad 21), .ref (ad 22), .ref (ad 23), .int (z.1 14), .int (z.1 15)] : List Value).set 6 (.int v))) = cW ad cB cI cZ (sS z 15 v) := rfl
theorem cg_19 {ad : Nat → Nat} {cB cI cZ : ClassId} {z : Sg} : (cW ad cB cI cZ z)[19]? = some (ad 19, .inl (cI, 24, .inl (z.2 13))) := rfl
theorem ca_19 {ad : Nat → Nat} {cB cI cZ : ClassId} {z : Sg} {f : Nat → Int32} : (cW ad cB cI cZ z).set 19 (ad 19, .inl (cI, 24, .inl f)) = cW ad cB cI cZ (sR z 13 f) := rfl
theorem cg_20 {ad : Nat → Nat} {cB cI cZ : ClassId} {z : Sg} : (cW ad cB cI cZ z)[20]? = some (ad 20, .inl (cZ, 24, .inl (z.2 14))) := rfl
theorem ca_20 {ad : Nat → Nat} {cB cI cZ : ClassId} {z : Sg} {f : Nat → Int32} : (cW ad cB cI cZ z).set 20 (ad 20, .inl (cZ, 24, .inl f)) = cW ad cB cI cZ (sR z 14 f) := rfl
theorem cg_21 {ad : Nat → Nat} {cB cI cZ : ClassId} {z : Sg} : (cW ad cB cI cZ z)[21]? = some (ad 21, .inl (cI, 24, .inl (z.2 15))) := rfl
theorem ca_21 {ad : Nat → Nat} {cB cI cZ : ClassId} {z : Sg} {f : Nat → Int32} : (cW ad cB cI cZ z).set 21 (ad 21, .inl (cI, 24, .inl f)) = cW ad cB cI cZ (sR z 15 f) := rfl
theorem cg_22 {ad : Nat → Nat} {cB cI cZ : ClassId} {z : Sg} : (cW ad cB cI cZ z)[22]? = some (ad 22, .inl (cI, 24, .inl (z.2 16))) := rfl
theorem ca_22 {ad : Nat → Nat} {cB cI cZ : ClassId} {z : Sg} {f : Nat → Int32} : (cW ad cB cI cZ z).set 22 (ad 22, .inl (cI, 24, .inl f)) = cW ad cB cI cZ (sR z 16 f) := rfl
theorem cg_23 {ad : Nat → Nat} {cB cI cZ : ClassId} {z : Sg} : (cW ad cB cI cZ z)[23]? = some (ad 23, .inl (cI, 24, .inl (z.2 17))) := rfl
theorem ca_23 {ad : Nat → Nat} {cB cI cZ : ClassId} {z : Sg} {f : Nat → Int32} : (cW ad cB cI cZ z).set 23 (ad 23, .inl (cI, 24, .inl f)) = cW ad cB cI cZ (sR z 17 f) := rfl
theorem cg_24 {ad : Nat → Nat} {cB cI cZ : ClassId} {z : Sg} : (cW ad cB cI cZ z)[24]? = some (ad 24, .inl (cI, 24, .inl (z.2 18))) := rfl
theorem ca_24 {ad : Nat → Nat} {cB cI cZ : ClassId} {z : Sg} {f : Nat → Int32} : (cW ad cB cI cZ z).set 24 (ad 24, .inl (cI, 24, .inl f)) = cW ad cB cI cZ (sR z 18 f) := rfl
theorem cg_25 {ad : Nat → Nat} {cB cI cZ : ClassId} {z : Sg} : (cW ad cB cI cZ z)[25]? = some (ad 25, .inl (cI, 24, .inl (z.2 19))) := rfl
theorem ca_25 {ad : Nat → Nat} {cB cI cZ : ClassId} {z : Sg} {f : Nat → Int32} : (cW ad cB cI cZ z).set 25 (ad 25, .inl (cI, 24, .inl f)) = cW ad cB cI cZ (sR z 19 f) := rfl
theorem mg_0 {ad : Nat → Nat} {cB cI cZ : ClassId} {z : Sg} : (mW ad cB cI cZ z)[0]? = some (ad 0, .inr (5, [.ref (ad 1), .int (z.1 0), .ref (ad 2), .ref (ad 3), .int (z.1 1), .int (z.1 2), .int (z.1 3), .int (z.1 4), .ref (ad 4), .ref (ad 5), .ref (ad 6), .ref (ad 7), .ref (ad 8), .ref (ad 9), .int (z.1 5), .int (z.1 6), .ref (ad 10), .ref (ad 11), .ref (ad 12), .ref (ad 13), .ref (ad 14)])) := rfl
theorem ms_0 {ad : Nat → Nat} {cB cI cZ : ClassId} {z : Sg} {v : Int32} : (mW ad cB cI cZ z).set 0 (ad 0, .inr (5, ([.ref (ad 1), .int (z.1 0), .ref (ad 2), .ref (ad 3), .int (z.1 1), .int (z.1 2), .int (z.1 3), .int (z.1 4), .ref (ad 4), .ref (ad 5), .ref (ad 6), .ref (ad 7), .ref (ad 8), .ref (ad 9), .int (z.1 5), .int (z.1 6), .ref (ad 10), .ref (ad 11), .ref (ad 12), .ref (ad 13), .ref (ad 14)] : List Value).set 1 (.int v))) = mW ad cB cI cZ (sS z 0 v) := rfl
theorem ms_1 {ad : Nat → Nat} {cB cI cZ : ClassId} {z : Sg} {v : Int32} : (mW ad cB cI cZ z).set 0 (ad 0, .inr (5, ([.ref (ad 1), .int (z.1 0), .ref (ad 2), .ref (ad 3), .int (z.1 1), .int (z.1 2), .int (z.1 3), .int (z.1 4), .ref (ad 4), .ref (ad 5), .ref (ad 6), .ref (ad 7), .ref (ad 8), .ref (ad 9), .int (z.1 5), .int (z.1 6), .ref (ad 10), .ref (ad 11), .ref (ad 12), .ref (ad 13), .ref (ad 14)] : List Value).set 4 (.int v))) = mW ad cB cI cZ (sS z 1 v) := rfl
theorem ms_2 {ad : Nat → Nat} {cB cI cZ : ClassId} {z : Sg} {v : Int32} : (mW ad cB cI cZ z).set 0 (ad 0, .inr (5, ([.ref (ad 1), .int (z.1 0), .ref (ad 2), .ref (ad 3), .int (z.1 1), .int (z.1 2), .int (z.1 3), .int (z.1 4), .ref (ad 4), .ref (ad 5), .ref (ad 6), .ref (ad 7), .ref (ad 8), .ref (ad 9), .int (z.1 5), .int (z.1 6), .ref (ad 10), .ref (ad 11), .ref (ad 12), .ref (ad 13), .ref (ad 14)] : List Value).set 5 (.int v))) = mW ad cB cI cZ (sS z 2 v) := rfl
theorem ms_3 {ad : Nat → Nat} {cB cI cZ : ClassId} {z : Sg} {v : Int32} : (mW ad cB cI cZ z).set 0 (ad 0, .inr (5, ([.ref (ad 1), .int (z.1 0), .ref (ad 2), .ref (ad 3), .int (z.1 1), .int (z.1 2), .int (z.1 3), .int (z.1 4), .ref (ad 4), .ref (ad 5), .ref (ad 6), .ref (ad 7), .ref (ad 8), .ref (ad 9), .int (z.1 5), .int (z.1 6), .ref (ad 10), .ref (ad 11), .ref (ad 12), .ref (ad 13), .ref (ad 14)] : List Value).set 6 (.int v))) = mW ad cB cI cZ (sS z 3 v) := rfl
theorem ms_4 {ad : Nat → Nat} {cB cI cZ : ClassId} {z : Sg} {v : Int32} : (mW ad cB cI cZ z).set 0 (ad 0, .inr (5, ([.ref (ad 1), .int (z.1 0), .ref (ad 2), .ref (ad 3), .int (z.1 1), .int (z.1 2), .int (z.1 3), .int (z.1 4), .ref (ad 4), .ref (ad 5), .ref (ad 6), .ref (ad 7), .ref (ad 8), .ref (ad 9), .int (z.1 5), .int (z.1 6), .ref (ad 10), .ref (ad 11), .ref (ad 12), .ref (ad 13), .ref (ad 14)] : List Value).set 7 (.int v))) = mW ad cB cI cZ (sS z 4 v) := rfl
theorem ms_5 {ad : Nat → Nat} {cB cI cZ : ClassId} {z : Sg} {v : Int32} : (mW ad cB cI cZ z).set 0 (ad 0, .inr (5, ([.ref (ad 1), .int (z.1 0), .ref (ad 2), .ref (ad 3), .int (z.1 1), .int (z.1 2), .int (z.1 3), .int (z.1 4), .ref (ad 4), .ref (ad 5), .ref (ad 6), .ref (ad 7), .ref (ad 8), .ref (ad 9), .int (z.1 5), .int (z.1 6), .ref (ad 10), .ref (ad 11), .ref (ad 12), .ref (ad 13), .ref (ad 14)] : List Value).set 14 (.int v))) = mW ad cB cI cZ (sS z 5 v) := rfl
theorem ms_6 {ad : Nat → Nat} {cB cI cZ : ClassId} {z : Sg} {v : Int32} : (mW ad cB cI cZ z).set 0 (ad 0, .inr (5, ([.ref (ad 1), .int (z.1 0), .ref (ad 2), .ref (ad 3), .int (z.1 1), .int (z.1 2), .int (z.1 3), .int (z.1 4), .ref (ad 4), .ref (ad 5), .ref (ad 6), .ref (ad 7), .ref (ad 8), .ref (ad 9), .int (z.1 5), .int (z.1 6), .ref (ad 10), .ref (ad 11), .ref (ad 12), .ref (ad 13), .ref (ad 14)] : List Value).set 15 (.int v))) = mW ad cB cI cZ (sS z 6 v) := rfl
theorem mg_1 {ad : Nat → Nat} {cB cI cZ : ClassId} {z : Sg} : (mW ad cB cI cZ z)[1]? = some (ad 1, .inl (cB, 60, .inl (z.2 0))) := rfl
theorem ma_1 {ad : Nat → Nat} {cB cI cZ : ClassId} {z : Sg} {f : Nat → Int32} : (mW ad cB cI cZ z).set 1 (ad 1, .inl (cB, 60, .inl f)) = mW ad cB cI cZ (sR z 0 f) := rfl
theorem mg_2 {ad : Nat → Nat} {cB cI cZ : ClassId} {z : Sg} : (mW ad cB cI cZ z)[2]? = some (ad 2, .inl (cI, 7, .inl (z.2 1))) := rfl
theorem ma_2 {ad : Nat → Nat} {cB cI cZ : ClassId} {z : Sg} {f : Nat → Int32} : (mW ad cB cI cZ z).set 2 (ad 2, .inl (cI, 7, .inl f)) = mW ad cB cI cZ (sR z 1 f) := rfl
theorem mg_3 {ad : Nat → Nat} {cB cI cZ : ClassId} {z : Sg} : (mW ad cB cI cZ z)[3]? = some (ad 3, .inl (cI, 7, .inl (z.2 2))) := rfl
theorem ma_3 {ad : Nat → Nat} {cB cI cZ : ClassId} {z : Sg} {f : Nat → Int32} : (mW ad cB cI cZ z).set 3 (ad 3, .inl (cI, 7, .inl f)) = mW ad cB cI cZ (sR z 2 f) := rfl
theorem mg_4 {ad : Nat → Nat} {cB cI cZ : ClassId} {z : Sg} : (mW ad cB cI cZ z)[4]? = some (ad 4, .inl (cI, 24, .inl (z.2 3))) := rfl
theorem ma_4 {ad : Nat → Nat} {cB cI cZ : ClassId} {z : Sg} {f : Nat → Int32} : (mW ad cB cI cZ z).set 4 (ad 4, .inl (cI, 24, .inl f)) = mW ad cB cI cZ (sR z 3 f) := rfl
theorem mg_5 {ad : Nat → Nat} {cB cI cZ : ClassId} {z : Sg} : (mW ad cB cI cZ z)[5]? = some (ad 5, .inl (cI, 24, .inl (z.2 4))) := rfl
theorem ma_5 {ad : Nat → Nat} {cB cI cZ : ClassId} {z : Sg} {f : Nat → Int32} : (mW ad cB cI cZ z).set 5 (ad 5, .inl (cI, 24, .inl f)) = mW ad cB cI cZ (sR z 4 f) := rfl
theorem mg_6 {ad : Nat → Nat} {cB cI cZ : ClassId} {z : Sg} : (mW ad cB cI cZ z)[6]? = some (ad 6, .inl (cI, 5, .inl (z.2 5))) := rfl
theorem ma_6 {ad : Nat → Nat} {cB cI cZ : ClassId} {z : Sg} {f : Nat → Int32} : (mW ad cB cI cZ z).set 6 (ad 6, .inl (cI, 5, .inl f)) = mW ad cB cI cZ (sR z 5 f) := rfl
theorem mg_7 {ad : Nat → Nat} {cB cI cZ : ClassId} {z : Sg} : (mW ad cB cI cZ z)[7]? = some (ad 7, .inl (cI, 200, .inl (z.2 6))) := rfl
theorem ma_7 {ad : Nat → Nat} {cB cI cZ : ClassId} {z : Sg} {f : Nat → Int32} : (mW ad cB cI cZ z).set 7 (ad 7, .inl (cI, 200, .inl f)) = mW ad cB cI cZ (sR z 6 f) := rfl
theorem mg_8 {ad : Nat → Nat} {cB cI cZ : ClassId} {z : Sg} : (mW ad cB cI cZ z)[8]? = some (ad 8, .inl (cI, 200, .inl (z.2 7))) := rfl
theorem ma_8 {ad : Nat → Nat} {cB cI cZ : ClassId} {z : Sg} {f : Nat → Int32} : (mW ad cB cI cZ z).set 8 (ad 8, .inl (cI, 200, .inl f)) = mW ad cB cI cZ (sR z 7 f) := rfl
theorem mg_9 {ad : Nat → Nat} {cB cI cZ : ClassId} {z : Sg} : (mW ad cB cI cZ z)[9]? = some (ad 9, .inl (cI, 1000, .inl (z.2 8))) := rfl
theorem ma_9 {ad : Nat → Nat} {cB cI cZ : ClassId} {z : Sg} {f : Nat → Int32} : (mW ad cB cI cZ z).set 9 (ad 9, .inl (cI, 1000, .inl f)) = mW ad cB cI cZ (sR z 8 f) := rfl
theorem mg_10 {ad : Nat → Nat} {cB cI cZ : ClassId} {z : Sg} : (mW ad cB cI cZ z)[10]? = some (ad 10, .inl (cZ, 24, .inl (z.2 9))) := rfl
theorem ma_10 {ad : Nat → Nat} {cB cI cZ : ClassId} {z : Sg} {f : Nat → Int32} : (mW ad cB cI cZ z).set 10 (ad 10, .inl (cZ, 24, .inl f)) = mW ad cB cI cZ (sR z 9 f) := rfl
theorem mg_11 {ad : Nat → Nat} {cB cI cZ : ClassId} {z : Sg} : (mW ad cB cI cZ z)[11]? = some (ad 11, .inl (cZ, 24, .inl (z.2 10))) := rfl
theorem ma_11 {ad : Nat → Nat} {cB cI cZ : ClassId} {z : Sg} {f : Nat → Int32} : (mW ad cB cI cZ z).set 11 (ad 11, .inl (cZ, 24, .inl f)) = mW ad cB cI cZ (sR z 10 f) := rfl
theorem mg_12 {ad : Nat → Nat} {cB cI cZ : ClassId} {z : Sg} : (mW ad cB cI cZ z)[12]? = some (ad 12, .inl (cI, 24, .inl (z.2 11))) := rfl
theorem ma_12 {ad : Nat → Nat} {cB cI cZ : ClassId} {z : Sg} {f : Nat → Int32} : (mW ad cB cI cZ z).set 12 (ad 12, .inl (cI, 24, .inl f)) = mW ad cB cI cZ (sR z 11 f) := rfl
theorem mg_13 {ad : Nat → Nat} {cB cI cZ : ClassId} {z : Sg} : (mW ad cB cI cZ z)[13]? = some (ad 13, .inl (cI, 24, .inl (z.2 12))) := rfl
theorem ma_13 {ad : Nat → Nat} {cB cI cZ : ClassId} {z : Sg} {f : Nat → Int32} : (mW ad cB cI cZ z).set 13 (ad 13, .inl (cI, 24, .inl f)) = mW ad cB cI cZ (sR z 12 f) := rfl
theorem mg_14 {ad : Nat → Nat} {cB cI cZ : ClassId} {z : Sg} : (mW ad cB cI cZ z)[14]? = some (ad 14, .inl (cI, 24, .inl (z.2 13))) := rfl
theorem ma_14 {ad : Nat → Nat} {cB cI cZ : ClassId} {z : Sg} {f : Nat → Int32} : (mW ad cB cI cZ z).set 14 (ad 14, .inl (cI, 24, .inl f)) = mW ad cB cI cZ (sR z 13 f) := rfl
theorem pd_X0_5 : parseFieldDescriptor (TX0 5).2.2.1 = some .int := by decide +kernel
theorem pd_X0_6 : parseFieldDescriptor (TX0 6).2.2.1 = some .int := by decide +kernel
theorem pd_X1_3 : parseFieldDescriptor (TX1 3).2.2.1 = some .int := by decide +kernel
theorem pd_X3_3 : parseFieldDescriptor (TX3 3).2.2.1 = some .int := by decide +kernel
theorem pd_X3_5 : parseFieldDescriptor (TX3 5).2.2.1 = some .int := by decide +kernel
theorem pd_X3_6 : parseFieldDescriptor (TX3 6).2.2.1 = some .int := by decide +kernel
theorem pd_X3_7 : parseFieldDescriptor (TX3 7).2.2.1 = some .int := by decide +kernel
theorem pd_X3_8 : parseFieldDescriptor (TX3 8).2.2.1 = some .int := by decide +kernel
theorem pd_X3_9 : parseFieldDescriptor (TX3 9).2.2.1 = some .int := by decide +kernel
theorem pd_X4_1 : parseFieldDescriptor (TX4 1).2.2.1 = some .int := by decide +kernel
theorem pd_X4_7 : parseFieldDescriptor (TX4 7).2.2.1 = some .int := by decide +kernel
theorem pd_X4_8 : parseFieldDescriptor (TX4 8).2.2.1 = some .int := by decide +kernel
theorem pd_X4_9 : parseFieldDescriptor (TX4 9).2.2.1 = some .int := by decide +kernel
theorem pd_X4_10 : parseFieldDescriptor (TX4 10).2.2.1 = some .int := by decide +kernel
theorem pd_X5_1 : parseFieldDescriptor (TX5 1).2.2.1 = some .int := by decide +kernel
theorem pd_X5_4 : parseFieldDescriptor (TX5 4).2.2.1 = some .int := by decide +kernel
theorem pd_X5_5 : parseFieldDescriptor (TX5 5).2.2.1 = some .int := by decide +kernel
theorem pd_X5_6 : parseFieldDescriptor (TX5 6).2.2.1 = some .int := by decide +kernel
theorem pd_X5_7 : parseFieldDescriptor (TX5 7).2.2.1 = some .int := by decide +kernel
theorem pd_X5_14 : parseFieldDescriptor (TX5 14).2.2.1 = some .int := by decide +kernel
theorem pd_X5_15 : parseFieldDescriptor (TX5 15).2.2.1 = some .int := by decide +kernel
abbrev rmJ7_fill_53178 : Room := { frames := 0, cells := 0, slots := 0, locals := 0 }
theorem hn_J7_fill_53178 : yJ7_fill_53178.cls ≠ "java/lang/invoke/MethodHandle" ∧ yJ7_fill_53178.cls ≠ "java/lang/invoke/VarHandle" ∧ (parseMethodDescriptor yJ7_fill_53178.desc).map (fun d => d.parameters.length) = some 2 := by decide +kernel
abbrev rmX2_isLetter : Room := { frames := 0, cells := 0, slots := 0, locals := 0 }
theorem hn_X2_isLetter : yX2_isLetter.cls ≠ "java/lang/invoke/MethodHandle" ∧ yX2_isLetter.cls ≠ "java/lang/invoke/VarHandle" ∧ (parseMethodDescriptor yX2_isLetter.desc).map (fun d => d.parameters.length) = some 1 := by decide +kernel
abbrev rmX2_canBe : Room := { frames := 1, cells := 0, slots := 0, locals := 20 }
theorem hn_X2_canBe : yX2_canBe.cls ≠ "java/lang/invoke/MethodHandle" ∧ yX2_canBe.cls ≠ "java/lang/invoke/VarHandle" ∧ (parseMethodDescriptor yX2_canBe.desc).map (fun d => d.parameters.length) = some 2 := by decide +kernel
abbrev rmX2_faultOfClause : Room := { frames := 2, cells := 0, slots := 0, locals := 41 }
theorem hn_X2_faultOfClause : yX2_faultOfClause.cls ≠ "java/lang/invoke/MethodHandle" ∧ yX2_faultOfClause.cls ≠ "java/lang/invoke/VarHandle" ∧ (parseMethodDescriptor yX2_faultOfClause.desc).map (fun d => d.parameters.length) = some 5 := by decide +kernel
abbrev rmX2_letterOf : Room := { frames := 0, cells := 0, slots := 0, locals := 0 }
theorem hn_X2_letterOf : yX2_letterOf.cls ≠ "java/lang/invoke/MethodHandle" ∧ yX2_letterOf.cls ≠ "java/lang/invoke/VarHandle" ∧ (parseMethodDescriptor yX2_letterOf.desc).map (fun d => d.parameters.length) = some 1 := by decide +kernel
abbrev rmX2_number : Room := { frames := 1, cells := 0, slots := 0, locals := 20 }
theorem hd_X2_number : yX2_number.cls = RX2 ∧ yX2_number.cls ≠ "java/lang/invoke/MethodHandle" ∧ yX2_number.cls ≠ "java/lang/invoke/VarHandle" ∧ (parseMethodDescriptor yX2_number.desc).map (fun d => d.parameters.length) = some 1 := by decide +kernel
theorem hn_X2_number : yX2_number.cls ≠ "java/lang/invoke/MethodHandle" ∧ yX2_number.cls ≠ "java/lang/invoke/VarHandle" ∧ (parseMethodDescriptor yX2_number.desc).map (fun d => d.parameters.length) = some 1 := by decide +kernel
theorem in_X2_number_X2 : ∀ w ∈ u_ws RX2 TX2 2, w ∈ wsX2_number := fun _ h => List.mem_cons_of_mem _ (List.mem_append_right _ h)
abbrev rmX2_read : Room := { frames := 3, cells := 0, slots := 0, locals := 65 }
theorem hd_X2_read : yX2_read.cls = RX2 ∧ yX2_read.cls ≠ "java/lang/invoke/MethodHandle" ∧ yX2_read.cls ≠ "java/lang/invoke/VarHandle" ∧ (parseMethodDescriptor yX2_read.desc).map (fun d => d.parameters.length) = some 2 := by decide +kernel
theorem hn_X2_read : yX2_read.cls ≠ "java/lang/invoke/MethodHandle" ∧ yX2_read.cls ≠ "java/lang/invoke/VarHandle" ∧ (parseMethodDescriptor yX2_read.desc).map (fun d => d.parameters.length) = some 2 := by decide +kernel
theorem in_X2_read_X2 : ∀ w ∈ u_ws RX2 TX2 2, w ∈ wsX2_read := fun _ h => List.mem_cons_of_mem _ (List.mem_append_right _ h)
abbrev rmX1_add : Room := { frames := 0, cells := 0, slots := 0, locals := 0 }
theorem hd_X1_add : yX1_add.cls = RX1 ∧ yX1_add.cls ≠ "java/lang/invoke/MethodHandle" ∧ yX1_add.cls ≠ "java/lang/invoke/VarHandle" ∧ (parseMethodDescriptor yX1_add.desc).map (fun d => d.parameters.length) = some 7 := by decide +kernel
theorem hn_X1_add : yX1_add.cls ≠ "java/lang/invoke/MethodHandle" ∧ yX1_add.cls ≠ "java/lang/invoke/VarHandle" ∧ (parseMethodDescriptor yX1_add.desc).map (fun d => d.parameters.length) = some 7 := by decide +kernel
theorem in_X1_add_X1 : ∀ w ∈ u_ws RX1 TX1 4, w ∈ wsX1_add := fun _ h => List.mem_cons_of_mem _ (List.mem_append_right _ h)
abbrev rmX1_value : Room := { frames := 0, cells := 0, slots := 0, locals := 0 }
theorem hd_X1_value : yX1_value.cls = RX1 ∧ yX1_value.cls ≠ "java/lang/invoke/MethodHandle" ∧ yX1_value.cls ≠ "java/lang/invoke/VarHandle" ∧ (parseMethodDescriptor yX1_value.desc).map (fun d => d.parameters.length) = some 2 := by decide +kernel
theorem hn_X1_value : yX1_value.cls ≠ "java/lang/invoke/MethodHandle" ∧ yX1_value.cls ≠ "java/lang/invoke/VarHandle" ∧ (parseMethodDescriptor yX1_value.desc).map (fun d => d.parameters.length) = some 2 := by decide +kernel
theorem in_X1_value_X1 : ∀ w ∈ u_ws RX1 TX1 4, w ∈ wsX1_value := fun _ h => List.mem_cons_of_mem _ (List.mem_append_right _ h)
abbrev rmX3_know : Room := { frames := 1, cells := 0, slots := 0, locals := 23 }
theorem hd_X3_know : yX3_know.cls = RX3 ∧ yX3_know.cls ≠ "java/lang/invoke/MethodHandle" ∧ yX3_know.cls ≠ "java/lang/invoke/VarHandle" ∧ (parseMethodDescriptor yX3_know.desc).map (fun d => d.parameters.length) = some 1 := by decide +kernel
theorem hn_X3_know : yX3_know.cls ≠ "java/lang/invoke/MethodHandle" ∧ yX3_know.cls ≠ "java/lang/invoke/VarHandle" ∧ (parseMethodDescriptor yX3_know.desc).map (fun d => d.parameters.length) = some 1 := by decide +kernel
theorem in_X3_know_X1 : ∀ w ∈ u_ws RX1 TX1 4, w ∈ wsX3_know := fun _ h => List.mem_cons_of_mem _ (List.mem_append_right _ h)
theorem in_X3_know_X3 : ∀ w ∈ u_ws RX3 TX3 10, w ∈ wsX3_know := fun _ h => List.mem_cons_of_mem _ (List.mem_append_left _ (List.mem_append_right _ h))
abbrev rmX3_countingOf : Room := { frames := 0, cells := 0, slots := 0, locals := 0 }
theorem hd_X3_countingOf : yX3_countingOf.cls = RX3 ∧ yX3_countingOf.cls ≠ "java/lang/invoke/MethodHandle" ∧ yX3_countingOf.cls ≠ "java/lang/invoke/VarHandle" ∧ (parseMethodDescriptor yX3_countingOf.desc).map (fun d => d.parameters.length) = some 2 := by decide +kernel
theorem hn_X3_countingOf : yX3_countingOf.cls ≠ "java/lang/invoke/MethodHandle" ∧ yX3_countingOf.cls ≠ "java/lang/invoke/VarHandle" ∧ (parseMethodDescriptor yX3_countingOf.desc).map (fun d => d.parameters.length) = some 2 := by decide +kernel
theorem in_X3_countingOf_X3 : ∀ w ∈ u_ws RX3 TX3 10, w ∈ wsX3_countingOf := fun _ h => List.mem_cons_of_mem _ (List.mem_append_right _ h)
abbrev rmX3_isStruck : Room := { frames := 1, cells := 0, slots := 0, locals := 23 }
theorem hd_X3_isStruck : yX3_isStruck.cls = RX3 ∧ yX3_isStruck.cls ≠ "java/lang/invoke/MethodHandle" ∧ yX3_isStruck.cls ≠ "java/lang/invoke/VarHandle" ∧ (parseMethodDescriptor yX3_isStruck.desc).map (fun d => d.parameters.length) = some 1 := by decide +kernel
theorem hn_X3_isStruck : yX3_isStruck.cls ≠ "java/lang/invoke/MethodHandle" ∧ yX3_isStruck.cls ≠ "java/lang/invoke/VarHandle" ∧ (parseMethodDescriptor yX3_isStruck.desc).map (fun d => d.parameters.length) = some 1 := by decide +kernel
theorem in_X3_isStruck_X1 : ∀ w ∈ u_ws RX1 TX1 4, w ∈ wsX3_isStruck := fun _ h => List.mem_cons_of_mem _ (List.mem_append_right _ h)
theorem in_X3_isStruck_X3 : ∀ w ∈ u_ws RX3 TX3 10, w ∈ wsX3_isStruck := fun _ h => List.mem_cons_of_mem _ (List.mem_append_left _ (List.mem_append_right _ h))
abbrev rmX3_hasPoints : Room := { frames := 2, cells := 0, slots := 0, locals := 45 }
theorem hd_X3_hasPoints : yX3_hasPoints.cls = RX3 ∧ yX3_hasPoints.cls ≠ "java/lang/invoke/MethodHandle" ∧ yX3_hasPoints.cls ≠ "java/lang/invoke/VarHandle" ∧ (parseMethodDescriptor yX3_hasPoints.desc).map (fun d => d.parameters.length) = some 1 := by decide +kernel
theorem hn_X3_hasPoints : yX3_hasPoints.cls ≠ "java/lang/invoke/MethodHandle" ∧ yX3_hasPoints.cls ≠ "java/lang/invoke/VarHandle" ∧ (parseMethodDescriptor yX3_hasPoints.desc).map (fun d => d.parameters.length) = some 1 := by decide +kernel
theorem in_X3_hasPoints_X1 : ∀ w ∈ u_ws RX1 TX1 4, w ∈ wsX3_hasPoints := fun _ h => List.mem_cons_of_mem _ (List.mem_append_right _ h)
theorem in_X3_hasPoints_X3 : ∀ w ∈ u_ws RX3 TX3 10, w ∈ wsX3_hasPoints := fun _ h => List.mem_cons_of_mem _ (List.mem_append_left _ (List.mem_append_right _ h))
abbrev rmX3_lengthOf : Room := { frames := 1, cells := 0, slots := 0, locals := 23 }
theorem hd_X3_lengthOf : yX3_lengthOf.cls = RX3 ∧ yX3_lengthOf.cls ≠ "java/lang/invoke/MethodHandle" ∧ yX3_lengthOf.cls ≠ "java/lang/invoke/VarHandle" ∧ (parseMethodDescriptor yX3_lengthOf.desc).map (fun d => d.parameters.length) = some 1 := by decide +kernel
theorem hn_X3_lengthOf : yX3_lengthOf.cls ≠ "java/lang/invoke/MethodHandle" ∧ yX3_lengthOf.cls ≠ "java/lang/invoke/VarHandle" ∧ (parseMethodDescriptor yX3_lengthOf.desc).map (fun d => d.parameters.length) = some 1 := by decide +kernel
theorem in_X3_lengthOf_X1 : ∀ w ∈ u_ws RX1 TX1 4, w ∈ wsX3_lengthOf := fun _ h => List.mem_cons_of_mem _ (List.mem_append_right _ h)
theorem in_X3_lengthOf_X3 : ∀ w ∈ u_ws RX3 TX3 10, w ∈ wsX3_lengthOf := fun _ h => List.mem_cons_of_mem _ (List.mem_append_left _ (List.mem_append_right _ h))
abbrev rmX3_gateOf : Room := { frames := 2, cells := 0, slots := 0, locals := 41 }
theorem hd_X3_gateOf : yX3_gateOf.cls = RX3 ∧ yX3_gateOf.cls ≠ "java/lang/invoke/MethodHandle" ∧ yX3_gateOf.cls ≠ "java/lang/invoke/VarHandle" ∧ (parseMethodDescriptor yX3_gateOf.desc).map (fun d => d.parameters.length) = some 1 := by decide +kernel
theorem hn_X3_gateOf : yX3_gateOf.cls ≠ "java/lang/invoke/MethodHandle" ∧ yX3_gateOf.cls ≠ "java/lang/invoke/VarHandle" ∧ (parseMethodDescriptor yX3_gateOf.desc).map (fun d => d.parameters.length) = some 1 := by decide +kernel
theorem in_X3_gateOf_X1 : ∀ w ∈ u_ws RX1 TX1 4, w ∈ wsX3_gateOf := fun _ h => List.mem_cons_of_mem _ (List.mem_append_left _ (List.mem_append_right _ h))
theorem in_X3_gateOf_X2 : ∀ w ∈ u_ws RX2 TX2 2, w ∈ wsX3_gateOf := fun _ h => List.mem_cons_of_mem _ (List.mem_append_right _ h)
theorem in_X3_gateOf_X3 : ∀ w ∈ u_ws RX3 TX3 10, w ∈ wsX3_gateOf := fun _ h => List.mem_cons_of_mem _ (List.mem_append_left _ (List.mem_append_left _ (List.mem_append_right _ h)))
abbrev rmX3_rounded : Room := { frames := 1, cells := 0, slots := 0, locals := 14 }
theorem hn_X3_rounded : yX3_rounded.cls ≠ "java/lang/invoke/MethodHandle" ∧ yX3_rounded.cls ≠ "java/lang/invoke/VarHandle" ∧ (parseMethodDescriptor yX3_rounded.desc).map (fun d => d.parameters.length) = some 2 := by decide +kernel
abbrev rmX3_meanOf : Room := { frames := 2, cells := 0, slots := 0, locals := 36 }
theorem hd_X3_meanOf : yX3_meanOf.cls = RX3 ∧ yX3_meanOf.cls ≠ "java/lang/invoke/MethodHandle" ∧ yX3_meanOf.cls ≠ "java/lang/invoke/VarHandle" ∧ (parseMethodDescriptor yX3_meanOf.desc).map (fun d => d.parameters.length) = some 1 := by decide +kernel
theorem hn_X3_meanOf : yX3_meanOf.cls ≠ "java/lang/invoke/MethodHandle" ∧ yX3_meanOf.cls ≠ "java/lang/invoke/VarHandle" ∧ (parseMethodDescriptor yX3_meanOf.desc).map (fun d => d.parameters.length) = some 1 := by decide +kernel
theorem in_X3_meanOf_X1 : ∀ w ∈ u_ws RX1 TX1 4, w ∈ wsX3_meanOf := fun _ h => List.mem_cons_of_mem _ (List.mem_append_right _ h)
theorem in_X3_meanOf_X3 : ∀ w ∈ u_ws RX3 TX3 10, w ∈ wsX3_meanOf := fun _ h => List.mem_cons_of_mem _ (List.mem_append_left _ (List.mem_append_right _ h))
abbrev rmX3_styleOf : Room := { frames := 1, cells := 0, slots := 0, locals := 23 }
theorem hd_X3_styleOf : yX3_styleOf.cls = RX3 ∧ yX3_styleOf.cls ≠ "java/lang/invoke/MethodHandle" ∧ yX3_styleOf.cls ≠ "java/lang/invoke/VarHandle" ∧ (parseMethodDescriptor yX3_styleOf.desc).map (fun d => d.parameters.length) = some 1 := by decide +kernel
theorem hn_X3_styleOf : yX3_styleOf.cls ≠ "java/lang/invoke/MethodHandle" ∧ yX3_styleOf.cls ≠ "java/lang/invoke/VarHandle" ∧ (parseMethodDescriptor yX3_styleOf.desc).map (fun d => d.parameters.length) = some 1 := by decide +kernel
theorem in_X3_styleOf_X1 : ∀ w ∈ u_ws RX1 TX1 4, w ∈ wsX3_styleOf := fun _ h => List.mem_cons_of_mem _ (List.mem_append_right _ h)
theorem in_X3_styleOf_X3 : ∀ w ∈ u_ws RX3 TX3 10, w ∈ wsX3_styleOf := fun _ h => List.mem_cons_of_mem _ (List.mem_append_left _ (List.mem_append_right _ h))
abbrev rmX3_measure : Room := { frames := 3, cells := 0, slots := 0, locals := 66 }
theorem hd_X3_measure : yX3_measure.cls = RX3 ∧ yX3_measure.cls ≠ "java/lang/invoke/MethodHandle" ∧ yX3_measure.cls ≠ "java/lang/invoke/VarHandle" ∧ (parseMethodDescriptor yX3_measure.desc).map (fun d => d.parameters.length) = some 1 := by decide +kernel
theorem hn_X3_measure : yX3_measure.cls ≠ "java/lang/invoke/MethodHandle" ∧ yX3_measure.cls ≠ "java/lang/invoke/VarHandle" ∧ (parseMethodDescriptor yX3_measure.desc).map (fun d => d.parameters.length) = some 1 := by decide +kernel
theorem in_X3_measure_X1 : ∀ w ∈ u_ws RX1 TX1 4, w ∈ wsX3_measure := fun _ h => List.mem_cons_of_mem _ (List.mem_append_left _ (List.mem_append_right _ h))
theorem in_X3_measure_X2 : ∀ w ∈ u_ws RX2 TX2 2, w ∈ wsX3_measure := fun _ h => List.mem_cons_of_mem _ (List.mem_append_right _ h)
theorem in_X3_measure_X3 : ∀ w ∈ u_ws RX3 TX3 10, w ∈ wsX3_measure := fun _ h => List.mem_cons_of_mem _ (List.mem_append_left _ (List.mem_append_left _ (List.mem_append_right _ h)))
abbrev rmX3_sum : Room := { frames := 1, cells := 0, slots := 0, locals := 13 }
theorem hd_X3_sum : yX3_sum.cls = RX3 ∧ yX3_sum.cls ≠ "java/lang/invoke/MethodHandle" ∧ yX3_sum.cls ≠ "java/lang/invoke/VarHandle" ∧ (parseMethodDescriptor yX3_sum.desc).map (fun d => d.parameters.length) = some 0 := by decide +kernel
theorem hn_X3_sum : yX3_sum.cls ≠ "java/lang/invoke/MethodHandle" ∧ yX3_sum.cls ≠ "java/lang/invoke/VarHandle" ∧ (parseMethodDescriptor yX3_sum.desc).map (fun d => d.parameters.length) = some 0 := by decide +kernel
theorem in_X3_sum_X3 : ∀ w ∈ u_ws RX3 TX3 10, w ∈ wsX3_sum := fun _ h => List.mem_cons_of_mem _ (List.mem_append_right _ h)
abbrev rmX3_worthOf : Room := { frames := 2, cells := 0, slots := 0, locals := 33 }
theorem hd_X3_worthOf : yX3_worthOf.cls = RX3 ∧ yX3_worthOf.cls ≠ "java/lang/invoke/MethodHandle" ∧ yX3_worthOf.cls ≠ "java/lang/invoke/VarHandle" ∧ (parseMethodDescriptor yX3_worthOf.desc).map (fun d => d.parameters.length) = some 1 := by decide +kernel
theorem hn_X3_worthOf : yX3_worthOf.cls ≠ "java/lang/invoke/MethodHandle" ∧ yX3_worthOf.cls ≠ "java/lang/invoke/VarHandle" ∧ (parseMethodDescriptor yX3_worthOf.desc).map (fun d => d.parameters.length) = some 1 := by decide +kernel
theorem in_X3_worthOf_X3 : ∀ w ∈ u_ws RX3 TX3 10, w ∈ wsX3_worthOf := fun _ h => List.mem_cons_of_mem _ (List.mem_append_right _ h)
abbrev rmX3_mayBeRecord : Room := { frames := 3, cells := 0, slots := 0, locals := 66 }
theorem hd_X3_mayBeRecord : yX3_mayBeRecord.cls = RX3 ∧ yX3_mayBeRecord.cls ≠ "java/lang/invoke/MethodHandle" ∧ yX3_mayBeRecord.cls ≠ "java/lang/invoke/VarHandle" ∧ (parseMethodDescriptor yX3_mayBeRecord.desc).map (fun d => d.parameters.length) = some 1 := by decide +kernel
theorem hn_X3_mayBeRecord : yX3_mayBeRecord.cls ≠ "java/lang/invoke/MethodHandle" ∧ yX3_mayBeRecord.cls ≠ "java/lang/invoke/VarHandle" ∧ (parseMethodDescriptor yX3_mayBeRecord.desc).map (fun d => d.parameters.length) = some 1 := by decide +kernel
theorem in_X3_mayBeRecord_X1 : ∀ w ∈ u_ws RX1 TX1 4, w ∈ wsX3_mayBeRecord := fun _ h => List.mem_cons_of_mem _ (List.mem_append_right _ h)
theorem in_X3_mayBeRecord_X3 : ∀ w ∈ u_ws RX3 TX3 10, w ∈ wsX3_mayBeRecord := fun _ h => List.mem_cons_of_mem _ (List.mem_append_left _ (List.mem_append_right _ h))
abbrev rmX3_isLonger : Room := { frames := 2, cells := 0, slots := 0, locals := 44 }
theorem hd_X3_isLonger : yX3_isLonger.cls = RX3 ∧ yX3_isLonger.cls ≠ "java/lang/invoke/MethodHandle" ∧ yX3_isLonger.cls ≠ "java/lang/invoke/VarHandle" ∧ (parseMethodDescriptor yX3_isLonger.desc).map (fun d => d.parameters.length) = some 2 := by decide +kernel
theorem hn_X3_isLonger : yX3_isLonger.cls ≠ "java/lang/invoke/MethodHandle" ∧ yX3_isLonger.cls ≠ "java/lang/invoke/VarHandle" ∧ (parseMethodDescriptor yX3_isLonger.desc).map (fun d => d.parameters.length) = some 2 := by decide +kernel
theorem in_X3_isLonger_X1 : ∀ w ∈ u_ws RX1 TX1 4, w ∈ wsX3_isLonger := fun _ h => List.mem_cons_of_mem _ (List.mem_append_right _ h)
theorem in_X3_isLonger_X3 : ∀ w ∈ u_ws RX3 TX3 10, w ∈ wsX3_isLonger := fun _ h => List.mem_cons_of_mem _ (List.mem_append_left _ (List.mem_append_right _ h))
abbrev rmX0_aheadInRoundZero : Room := { frames := 2, cells := 0, slots := 0, locals := 41 }
theorem hd_X0_aheadInRoundZero : yX0_aheadInRoundZero.cls = RX0 ∧ yX0_aheadInRoundZero.cls ≠ "java/lang/invoke/MethodHandle" ∧ yX0_aheadInRoundZero.cls ≠ "java/lang/invoke/VarHandle" ∧ (parseMethodDescriptor yX0_aheadInRoundZero.desc).map (fun d => d.parameters.length) = some 2 := by decide +kernel
theorem hn_X0_aheadInRoundZero : yX0_aheadInRoundZero.cls ≠ "java/lang/invoke/MethodHandle" ∧ yX0_aheadInRoundZero.cls ≠ "java/lang/invoke/VarHandle" ∧ (parseMethodDescriptor yX0_aheadInRoundZero.desc).map (fun d => d.parameters.length) = some 2 := by decide +kernel
theorem in_X0_aheadInRoundZero_X0 : ∀ w ∈ u_ws RX0 TX0 7, w ∈ wsX0_aheadInRoundZero := fun _ h => List.mem_cons_of_mem _ (List.mem_append_left _ (List.mem_append_right _ h))
theorem in_X0_aheadInRoundZero_X2 : ∀ w ∈ u_ws RX2 TX2 2, w ∈ wsX0_aheadInRoundZero := fun _ h => List.mem_cons_of_mem _ (List.mem_append_right _ h)
abbrev rmX0_isBetter : Room := { frames := 0, cells := 0, slots := 0, locals := 0 }
theorem hd_X0_isBetter : yX0_isBetter.cls = RX0 ∧ yX0_isBetter.cls ≠ "java/lang/invoke/MethodHandle" ∧ yX0_isBetter.cls ≠ "java/lang/invoke/VarHandle" ∧ (parseMethodDescriptor yX0_isBetter.desc).map (fun d => d.parameters.length) = some 2 := by decide +kernel
theorem hn_X0_isBetter : yX0_isBetter.cls ≠ "java/lang/invoke/MethodHandle" ∧ yX0_isBetter.cls ≠ "java/lang/invoke/VarHandle" ∧ (parseMethodDescriptor yX0_isBetter.desc).map (fun d => d.parameters.length) = some 2 := by decide +kernel
theorem in_X0_isBetter_X0 : ∀ w ∈ u_ws RX0 TX0 7, w ∈ wsX0_isBetter := fun _ h => List.mem_cons_of_mem _ (List.mem_append_right _ h)
abbrev rmX0_placeOnList : Room := { frames := 1, cells := 0, slots := 0, locals := 22 }
theorem hd_X0_placeOnList : yX0_placeOnList.cls = RX0 ∧ yX0_placeOnList.cls ≠ "java/lang/invoke/MethodHandle" ∧ yX0_placeOnList.cls ≠ "java/lang/invoke/VarHandle" ∧ (parseMethodDescriptor yX0_placeOnList.desc).map (fun d => d.parameters.length) = some 1 := by decide +kernel
theorem hn_X0_placeOnList : yX0_placeOnList.cls ≠ "java/lang/invoke/MethodHandle" ∧ yX0_placeOnList.cls ≠ "java/lang/invoke/VarHandle" ∧ (parseMethodDescriptor yX0_placeOnList.desc).map (fun d => d.parameters.length) = some 1 := by decide +kernel
theorem in_X0_placeOnList_X0 : ∀ w ∈ u_ws RX0 TX0 7, w ∈ wsX0_placeOnList := fun _ h => List.mem_cons_of_mem _ (List.mem_append_right _ h)
abbrev rmX0_draw : Room := { frames := 4, cells := 0, slots := 0, locals := 88 }
theorem hd_X0_draw : yX0_draw.cls = RX0 ∧ yX0_draw.cls ≠ "java/lang/invoke/MethodHandle" ∧ yX0_draw.cls ≠ "java/lang/invoke/VarHandle" ∧ (parseMethodDescriptor yX0_draw.desc).map (fun d => d.parameters.length) = some 3 := by decide +kernel
theorem hn_X0_draw : yX0_draw.cls ≠ "java/lang/invoke/MethodHandle" ∧ yX0_draw.cls ≠ "java/lang/invoke/VarHandle" ∧ (parseMethodDescriptor yX0_draw.desc).map (fun d => d.parameters.length) = some 3 := by decide +kernel
theorem in_X0_draw_X0 : ∀ w ∈ u_ws RX0 TX0 7, w ∈ wsX0_draw := fun _ h => List.mem_cons_of_mem _ (List.mem_append_left _ (List.mem_append_left _ (List.mem_append_left _ (List.mem_append_right _ h))))
theorem in_X0_draw_X1 : ∀ w ∈ u_ws RX1 TX1 4, w ∈ wsX0_draw := fun _ h => List.mem_cons_of_mem _ (List.mem_append_left _ (List.mem_append_right _ h))
theorem in_X0_draw_X2 : ∀ w ∈ u_ws RX2 TX2 2, w ∈ wsX0_draw := fun _ h => List.mem_cons_of_mem _ (List.mem_append_right _ h)
theorem in_X0_draw_X3 : ∀ w ∈ u_ws RX3 TX3 10, w ∈ wsX0_draw := fun _ h => List.mem_cons_of_mem _ (List.mem_append_left _ (List.mem_append_left _ (List.mem_append_right _ h)))
abbrev rmX0_placeOf : Room := { frames := 0, cells := 0, slots := 0, locals := 0 }
theorem hd_X0_placeOf : yX0_placeOf.cls = RX0 ∧ yX0_placeOf.cls ≠ "java/lang/invoke/MethodHandle" ∧ yX0_placeOf.cls ≠ "java/lang/invoke/VarHandle" ∧ (parseMethodDescriptor yX0_placeOf.desc).map (fun d => d.parameters.length) = some 1 := by decide +kernel
theorem hn_X0_placeOf : yX0_placeOf.cls ≠ "java/lang/invoke/MethodHandle" ∧ yX0_placeOf.cls ≠ "java/lang/invoke/VarHandle" ∧ (parseMethodDescriptor yX0_placeOf.desc).map (fun d => d.parameters.length) = some 1 := by decide +kernel
theorem in_X0_placeOf_X0 : ∀ w ∈ u_ws RX0 TX0 7, w ∈ wsX0_placeOf := fun _ h => List.mem_cons_of_mem _ (List.mem_append_right _ h)
abbrev rmX0_aheadInRoundZeroo : Room := { frames := 2, cells := 0, slots := 0, locals := 41 }
abbrev rmX0_isBettero : Room := { frames := 0, cells := 0, slots := 0, locals := 0 }
abbrev rmX0_placeOnListo : Room := { frames := 1, cells := 0, slots := 0, locals := 22 }
abbrev rmX0_drawo : Room := { frames := 4, cells := 0, slots := 0, locals := 88 }
abbrev rmX0_placeOfo : Room := { frames := 0, cells := 0, slots := 0, locals := 0 }
abbrev rmX0_isListed : Room := { frames := 1, cells := 0, slots := 0, locals := 21 }
theorem hd_X0_isListed : yX0_isListed.cls = RX0 ∧ yX0_isListed.cls ≠ "java/lang/invoke/MethodHandle" ∧ yX0_isListed.cls ≠ "java/lang/invoke/VarHandle" ∧ (parseMethodDescriptor yX0_isListed.desc).map (fun d => d.parameters.length) = some 1 := by decide +kernel
theorem hn_X0_isListed : yX0_isListed.cls ≠ "java/lang/invoke/MethodHandle" ∧ yX0_isListed.cls ≠ "java/lang/invoke/VarHandle" ∧ (parseMethodDescriptor yX0_isListed.desc).map (fun d => d.parameters.length) = some 1 := by decide +kernel
theorem in_X0_isListed_X0 : ∀ w ∈ u_ws RX0 TX0 7, w ∈ wsX0_isListed := fun _ h => List.mem_cons_of_mem _ (List.mem_append_right _ h)
abbrev rmX0_isThrough : Room := { frames := 0, cells := 0, slots := 0, locals := 0 }
theorem hd_X0_isThrough : yX0_isThrough.cls = RX0 ∧ yX0_isThrough.cls ≠ "java/lang/invoke/MethodHandle" ∧ yX0_isThrough.cls ≠ "java/lang/invoke/VarHandle" ∧ (parseMethodDescriptor yX0_isThrough.desc).map (fun d => d.parameters.length) = some 1 := by decide +kernel
theorem hn_X0_isThrough : yX0_isThrough.cls ≠ "java/lang/invoke/MethodHandle" ∧ yX0_isThrough.cls ≠ "java/lang/invoke/VarHandle" ∧ (parseMethodDescriptor yX0_isThrough.desc).map (fun d => d.parameters.length) = some 1 := by decide +kernel
theorem in_X0_isThrough_X0 : ∀ w ∈ u_ws RX0 TX0 7, w ∈ wsX0_isThrough := fun _ h => List.mem_cons_of_mem _ (List.mem_append_right _ h)
abbrev rmX0_totalOf : Room := { frames := 0, cells := 0, slots := 0, locals := 0 }
theorem hd_X0_totalOf : yX0_totalOf.cls = RX0 ∧ yX0_totalOf.cls ≠ "java/lang/invoke/MethodHandle" ∧ yX0_totalOf.cls ≠ "java/lang/invoke/VarHandle" ∧ (parseMethodDescriptor yX0_totalOf.desc).map (fun d => d.parameters.length) = some 1 := by decide +kernel
theorem hn_X0_totalOf : yX0_totalOf.cls ≠ "java/lang/invoke/MethodHandle" ∧ yX0_totalOf.cls ≠ "java/lang/invoke/VarHandle" ∧ (parseMethodDescriptor yX0_totalOf.desc).map (fun d => d.parameters.length) = some 1 := by decide +kernel
theorem in_X0_totalOf_X0 : ∀ w ∈ u_ws RX0 TX0 7, w ∈ wsX0_totalOf := fun _ h => List.mem_cons_of_mem _ (List.mem_append_right _ h)
abbrev rmX0_isPosition : Room := { frames := 0, cells := 0, slots := 0, locals := 0 }
theorem hd_X0_isPosition : yX0_isPosition.cls = RX0 ∧ yX0_isPosition.cls ≠ "java/lang/invoke/MethodHandle" ∧ yX0_isPosition.cls ≠ "java/lang/invoke/VarHandle" ∧ (parseMethodDescriptor yX0_isPosition.desc).map (fun d => d.parameters.length) = some 1 := by decide +kernel
theorem hn_X0_isPosition : yX0_isPosition.cls ≠ "java/lang/invoke/MethodHandle" ∧ yX0_isPosition.cls ≠ "java/lang/invoke/VarHandle" ∧ (parseMethodDescriptor yX0_isPosition.desc).map (fun d => d.parameters.length) = some 1 := by decide +kernel
theorem in_X0_isPosition_X0 : ∀ w ∈ u_ws RX0 TX0 7, w ∈ wsX0_isPosition := fun _ h => List.mem_cons_of_mem _ (List.mem_append_right _ h)
abbrev rmX0_jumperAt : Room := { frames := 0, cells := 0, slots := 0, locals := 0 }
theorem hd_X0_jumperAt : yX0_jumperAt.cls = RX0 ∧ yX0_jumperAt.cls ≠ "java/lang/invoke/MethodHandle" ∧ yX0_jumperAt.cls ≠ "java/lang/invoke/VarHandle" ∧ (parseMethodDescriptor yX0_jumperAt.desc).map (fun d => d.parameters.length) = some 1 := by decide +kernel
theorem hn_X0_jumperAt : yX0_jumperAt.cls ≠ "java/lang/invoke/MethodHandle" ∧ yX0_jumperAt.cls ≠ "java/lang/invoke/VarHandle" ∧ (parseMethodDescriptor yX0_jumperAt.desc).map (fun d => d.parameters.length) = some 1 := by decide +kernel
theorem in_X0_jumperAt_X0 : ∀ w ∈ u_ws RX0 TX0 7, w ∈ wsX0_jumperAt := fun _ h => List.mem_cons_of_mem _ (List.mem_append_right _ h)
abbrev rmX0_startersBefore : Room := { frames := 0, cells := 0, slots := 0, locals := 0 }
theorem hd_X0_startersBefore : yX0_startersBefore.cls = RX0 ∧ yX0_startersBefore.cls ≠ "java/lang/invoke/MethodHandle" ∧ yX0_startersBefore.cls ≠ "java/lang/invoke/VarHandle" ∧ (parseMethodDescriptor yX0_startersBefore.desc).map (fun d => d.parameters.length) = some 1 := by decide +kernel
theorem hn_X0_startersBefore : yX0_startersBefore.cls ≠ "java/lang/invoke/MethodHandle" ∧ yX0_startersBefore.cls ≠ "java/lang/invoke/VarHandle" ∧ (parseMethodDescriptor yX0_startersBefore.desc).map (fun d => d.parameters.length) = some 1 := by decide +kernel
theorem in_X0_startersBefore_X0 : ∀ w ∈ u_ws RX0 TX0 7, w ∈ wsX0_startersBefore := fun _ h => List.mem_cons_of_mem _ (List.mem_append_right _ h)
abbrev rmX0_starterAt : Room := { frames := 1, cells := 0, slots := 0, locals := 24 }
theorem hd_X0_starterAt : yX0_starterAt.cls = RX0 ∧ yX0_starterAt.cls ≠ "java/lang/invoke/MethodHandle" ∧ yX0_starterAt.cls ≠ "java/lang/invoke/VarHandle" ∧ (parseMethodDescriptor yX0_starterAt.desc).map (fun d => d.parameters.length) = some 1 := by decide +kernel
theorem hn_X0_starterAt : yX0_starterAt.cls ≠ "java/lang/invoke/MethodHandle" ∧ yX0_starterAt.cls ≠ "java/lang/invoke/VarHandle" ∧ (parseMethodDescriptor yX0_starterAt.desc).map (fun d => d.parameters.length) = some 1 := by decide +kernel
theorem in_X0_starterAt_X0 : ∀ w ∈ u_ws RX0 TX0 7, w ∈ wsX0_starterAt := fun _ h => List.mem_cons_of_mem _ (List.mem_append_right _ h)
abbrev rmX4_tapeInt : Room := { frames := 0, cells := 0, slots := 0, locals := 0 }
theorem hd_X4_tapeInt : yX4_tapeInt.cls = RX4 ∧ yX4_tapeInt.cls ≠ "java/lang/invoke/MethodHandle" ∧ yX4_tapeInt.cls ≠ "java/lang/invoke/VarHandle" ∧ (parseMethodDescriptor yX4_tapeInt.desc).map (fun d => d.parameters.length) = some 1 := by decide +kernel
theorem hn_X4_tapeInt : yX4_tapeInt.cls ≠ "java/lang/invoke/MethodHandle" ∧ yX4_tapeInt.cls ≠ "java/lang/invoke/VarHandle" ∧ (parseMethodDescriptor yX4_tapeInt.desc).map (fun d => d.parameters.length) = some 1 := by decide +kernel
theorem in_X4_tapeInt_X4 : ∀ w ∈ u_ws RX4 TX4 11, w ∈ wsX4_tapeInt := fun _ h => List.mem_cons_of_mem _ (List.mem_append_right _ h)
abbrev rmX4_feed : Room := { frames := 1, cells := 0, slots := 0, locals := 22 }
theorem hd_X4_feed : yX4_feed.cls = RX4 ∧ yX4_feed.cls ≠ "java/lang/invoke/MethodHandle" ∧ yX4_feed.cls ≠ "java/lang/invoke/VarHandle" ∧ (parseMethodDescriptor yX4_feed.desc).map (fun d => d.parameters.length) = some 5 := by decide +kernel
theorem hn_X4_feed : yX4_feed.cls ≠ "java/lang/invoke/MethodHandle" ∧ yX4_feed.cls ≠ "java/lang/invoke/VarHandle" ∧ (parseMethodDescriptor yX4_feed.desc).map (fun d => d.parameters.length) = some 5 := by decide +kernel
theorem in_X4_feed_X4 : ∀ w ∈ u_ws RX4 TX4 11, w ∈ wsX4_feed := fun _ h => List.mem_cons_of_mem _ (List.mem_append_right _ h)
abbrev rmX4_rules : Room := { frames := 4, cells := 0, slots := 0, locals := 93 }
theorem hd_X4_rules : yX4_rules.cls = RX4 ∧ yX4_rules.cls ≠ "java/lang/invoke/MethodHandle" ∧ yX4_rules.cls ≠ "java/lang/invoke/VarHandle" ∧ (parseMethodDescriptor yX4_rules.desc).map (fun d => d.parameters.length) = some 1 := by decide +kernel
theorem hn_X4_rules : yX4_rules.cls ≠ "java/lang/invoke/MethodHandle" ∧ yX4_rules.cls ≠ "java/lang/invoke/VarHandle" ∧ (parseMethodDescriptor yX4_rules.desc).map (fun d => d.parameters.length) = some 1 := by decide +kernel
theorem in_X4_rules_X2 : ∀ w ∈ u_ws RX2 TX2 2, w ∈ wsX4_rules := fun _ h => List.mem_cons_of_mem _ (List.mem_append_right _ h)
theorem in_X4_rules_X3 : ∀ w ∈ u_ws RX3 TX3 10, w ∈ wsX4_rules := fun _ h => List.mem_cons_of_mem _ (List.mem_append_left _ (List.mem_append_right _ h))
theorem in_X4_rules_X4 : ∀ w ∈ u_ws RX4 TX4 11, w ∈ wsX4_rules := fun _ h => List.mem_cons_of_mem _ (List.mem_append_left _ (List.mem_append_left _ (List.mem_append_right _ h)))
abbrev rmX4_rule : Room := { frames := 2, cells := 0, slots := 0, locals := 41 }
theorem hd_X4_rule : yX4_rule.cls = RX4 ∧ yX4_rule.cls ≠ "java/lang/invoke/MethodHandle" ∧ yX4_rule.cls ≠ "java/lang/invoke/VarHandle" ∧ (parseMethodDescriptor yX4_rule.desc).map (fun d => d.parameters.length) = some 1 := by decide +kernel
theorem hn_X4_rule : yX4_rule.cls ≠ "java/lang/invoke/MethodHandle" ∧ yX4_rule.cls ≠ "java/lang/invoke/VarHandle" ∧ (parseMethodDescriptor yX4_rule.desc).map (fun d => d.parameters.length) = some 1 := by decide +kernel
theorem in_X4_rule_X2 : ∀ w ∈ u_ws RX2 TX2 2, w ∈ wsX4_rule := fun _ h => List.mem_cons_of_mem _ (List.mem_append_right _ h)
theorem in_X4_rule_X3 : ∀ w ∈ u_ws RX3 TX3 10, w ∈ wsX4_rule := fun _ h => List.mem_cons_of_mem _ (List.mem_append_left _ (List.mem_append_right _ h))
theorem in_X4_rule_X4 : ∀ w ∈ u_ws RX4 TX4 11, w ∈ wsX4_rule := fun _ h => List.mem_cons_of_mem _ (List.mem_append_left _ (List.mem_append_left _ (List.mem_append_right _ h)))
abbrev rmX4_isTeam : Room := { frames := 0, cells := 0, slots := 0, locals := 0 }
theorem hd_X4_isTeam : yX4_isTeam.cls = RX4 ∧ yX4_isTeam.cls ≠ "java/lang/invoke/MethodHandle" ∧ yX4_isTeam.cls ≠ "java/lang/invoke/VarHandle" ∧ (parseMethodDescriptor yX4_isTeam.desc).map (fun d => d.parameters.length) = some 1 := by decide +kernel
theorem hn_X4_isTeam : yX4_isTeam.cls ≠ "java/lang/invoke/MethodHandle" ∧ yX4_isTeam.cls ≠ "java/lang/invoke/VarHandle" ∧ (parseMethodDescriptor yX4_isTeam.desc).map (fun d => d.parameters.length) = some 1 := by decide +kernel
abbrev rmX4_jumper : Room := { frames := 1, cells := 0, slots := 0, locals := 21 }
theorem hd_X4_jumper : yX4_jumper.cls = RX4 ∧ yX4_jumper.cls ≠ "java/lang/invoke/MethodHandle" ∧ yX4_jumper.cls ≠ "java/lang/invoke/VarHandle" ∧ (parseMethodDescriptor yX4_jumper.desc).map (fun d => d.parameters.length) = some 1 := by decide +kernel
theorem hn_X4_jumper : yX4_jumper.cls ≠ "java/lang/invoke/MethodHandle" ∧ yX4_jumper.cls ≠ "java/lang/invoke/VarHandle" ∧ (parseMethodDescriptor yX4_jumper.desc).map (fun d => d.parameters.length) = some 1 := by decide +kernel
theorem in_X4_jumper_X4 : ∀ w ∈ u_ws RX4 TX4 11, w ∈ wsX4_jumper := fun _ h => List.mem_cons_of_mem _ (List.mem_append_right _ h)
abbrev rmX4_isSensor : Room := { frames := 0, cells := 0, slots := 0, locals := 0 }
theorem hd_X4_isSensor : yX4_isSensor.cls = RX4 ∧ yX4_isSensor.cls ≠ "java/lang/invoke/MethodHandle" ∧ yX4_isSensor.cls ≠ "java/lang/invoke/VarHandle" ∧ (parseMethodDescriptor yX4_isSensor.desc).map (fun d => d.parameters.length) = some 1 := by decide +kernel
theorem hn_X4_isSensor : yX4_isSensor.cls ≠ "java/lang/invoke/MethodHandle" ∧ yX4_isSensor.cls ≠ "java/lang/invoke/VarHandle" ∧ (parseMethodDescriptor yX4_isSensor.desc).map (fun d => d.parameters.length) = some 1 := by decide +kernel
abbrev rmX4_sensor : Room := { frames := 1, cells := 0, slots := 0, locals := 21 }
theorem hd_X4_sensor : yX4_sensor.cls = RX4 ∧ yX4_sensor.cls ≠ "java/lang/invoke/MethodHandle" ∧ yX4_sensor.cls ≠ "java/lang/invoke/VarHandle" ∧ (parseMethodDescriptor yX4_sensor.desc).map (fun d => d.parameters.length) = some 2 := by decide +kernel
theorem hn_X4_sensor : yX4_sensor.cls ≠ "java/lang/invoke/MethodHandle" ∧ yX4_sensor.cls ≠ "java/lang/invoke/VarHandle" ∧ (parseMethodDescriptor yX4_sensor.desc).map (fun d => d.parameters.length) = some 2 := by decide +kernel
theorem in_X4_sensor_X3 : ∀ w ∈ u_ws RX3 TX3 10, w ∈ wsX4_sensor := fun _ h => List.mem_cons_of_mem _ (List.mem_append_right _ h)
theorem in_X4_sensor_X4 : ∀ w ∈ u_ws RX4 TX4 11, w ∈ wsX4_sensor := fun _ h => List.mem_cons_of_mem _ (List.mem_append_left _ (List.mem_append_right _ h))
abbrev rmX4_isGate : Room := { frames := 0, cells := 0, slots := 0, locals := 0 }
theorem hd_X4_isGate : yX4_isGate.cls = RX4 ∧ yX4_isGate.cls ≠ "java/lang/invoke/MethodHandle" ∧ yX4_isGate.cls ≠ "java/lang/invoke/VarHandle" ∧ (parseMethodDescriptor yX4_isGate.desc).map (fun d => d.parameters.length) = some 1 := by decide +kernel
theorem hn_X4_isGate : yX4_isGate.cls ≠ "java/lang/invoke/MethodHandle" ∧ yX4_isGate.cls ≠ "java/lang/invoke/VarHandle" ∧ (parseMethodDescriptor yX4_isGate.desc).map (fun d => d.parameters.length) = some 1 := by decide +kernel
abbrev rmX4_base : Room := { frames := 1, cells := 0, slots := 0, locals := 21 }
theorem hd_X4_base : yX4_base.cls = RX4 ∧ yX4_base.cls ≠ "java/lang/invoke/MethodHandle" ∧ yX4_base.cls ≠ "java/lang/invoke/VarHandle" ∧ (parseMethodDescriptor yX4_base.desc).map (fun d => d.parameters.length) = some 1 := by decide +kernel
theorem hn_X4_base : yX4_base.cls ≠ "java/lang/invoke/MethodHandle" ∧ yX4_base.cls ≠ "java/lang/invoke/VarHandle" ∧ (parseMethodDescriptor yX4_base.desc).map (fun d => d.parameters.length) = some 1 := by decide +kernel
theorem in_X4_base_X3 : ∀ w ∈ u_ws RX3 TX3 10, w ∈ wsX4_base := fun _ h => List.mem_cons_of_mem _ (List.mem_append_right _ h)
theorem in_X4_base_X4 : ∀ w ∈ u_ws RX4 TX4 11, w ∈ wsX4_base := fun _ h => List.mem_cons_of_mem _ (List.mem_append_left _ (List.mem_append_right _ h))
abbrev rmX4_isJumper : Room := { frames := 0, cells := 0, slots := 0, locals := 0 }
theorem hd_X4_isJumper : yX4_isJumper.cls = RX4 ∧ yX4_isJumper.cls ≠ "java/lang/invoke/MethodHandle" ∧ yX4_isJumper.cls ≠ "java/lang/invoke/VarHandle" ∧ (parseMethodDescriptor yX4_isJumper.desc).map (fun d => d.parameters.length) = some 1 := by decide +kernel
theorem hn_X4_isJumper : yX4_isJumper.cls ≠ "java/lang/invoke/MethodHandle" ∧ yX4_isJumper.cls ≠ "java/lang/invoke/VarHandle" ∧ (parseMethodDescriptor yX4_isJumper.desc).map (fun d => d.parameters.length) = some 1 := by decide +kernel
theorem in_X4_isJumper_X4 : ∀ w ∈ u_ws RX4 TX4 11, w ∈ wsX4_isJumper := fun _ h => List.mem_cons_of_mem _ (List.mem_append_right _ h)
abbrev rmX4_isRound : Room := { frames := 0, cells := 0, slots := 0, locals := 0 }
theorem hd_X4_isRound : yX4_isRound.cls = RX4 ∧ yX4_isRound.cls ≠ "java/lang/invoke/MethodHandle" ∧ yX4_isRound.cls ≠ "java/lang/invoke/VarHandle" ∧ (parseMethodDescriptor yX4_isRound.desc).map (fun d => d.parameters.length) = some 1 := by decide +kernel
theorem hn_X4_isRound : yX4_isRound.cls ≠ "java/lang/invoke/MethodHandle" ∧ yX4_isRound.cls ≠ "java/lang/invoke/VarHandle" ∧ (parseMethodDescriptor yX4_isRound.desc).map (fun d => d.parameters.length) = some 1 := by decide +kernel
abbrev rmX4_jumpOf : Room := { frames := 0, cells := 0, slots := 0, locals := 0 }
theorem hn_X4_jumpOf : yX4_jumpOf.cls ≠ "java/lang/invoke/MethodHandle" ∧ yX4_jumpOf.cls ≠ "java/lang/invoke/VarHandle" ∧ (parseMethodDescriptor yX4_jumpOf.desc).map (fun d => d.parameters.length) = some 2 := by decide +kernel
abbrev rmX4_reading : Room := { frames := 1, cells := 0, slots := 0, locals := 29 }
theorem hd_X4_reading : yX4_reading.cls = RX4 ∧ yX4_reading.cls ≠ "java/lang/invoke/MethodHandle" ∧ yX4_reading.cls ≠ "java/lang/invoke/VarHandle" ∧ (parseMethodDescriptor yX4_reading.desc).map (fun d => d.parameters.length) = some 5 := by decide +kernel
theorem hn_X4_reading : yX4_reading.cls ≠ "java/lang/invoke/MethodHandle" ∧ yX4_reading.cls ≠ "java/lang/invoke/VarHandle" ∧ (parseMethodDescriptor yX4_reading.desc).map (fun d => d.parameters.length) = some 5 := by decide +kernel
theorem in_X4_reading_X1 : ∀ w ∈ u_ws RX1 TX1 4, w ∈ wsX4_reading := fun _ h => List.mem_cons_of_mem _ (List.mem_append_right _ h)
theorem in_X4_reading_X3 : ∀ w ∈ u_ws RX3 TX3 10, w ∈ wsX4_reading := fun _ h => List.mem_cons_of_mem _ (List.mem_append_left _ (List.mem_append_right _ h))
theorem in_X4_reading_X4 : ∀ w ∈ u_ws RX4 TX4 11, w ∈ wsX4_reading := fun _ h => List.mem_cons_of_mem _ (List.mem_append_left _ (List.mem_append_left _ (List.mem_append_right _ h)))
abbrev rmX4_isWind : Room := { frames := 0, cells := 0, slots := 0, locals := 0 }
theorem hd_X4_isWind : yX4_isWind.cls = RX4 ∧ yX4_isWind.cls ≠ "java/lang/invoke/MethodHandle" ∧ yX4_isWind.cls ≠ "java/lang/invoke/VarHandle" ∧ (parseMethodDescriptor yX4_isWind.desc).map (fun d => d.parameters.length) = some 1 := by decide +kernel
theorem hn_X4_isWind : yX4_isWind.cls ≠ "java/lang/invoke/MethodHandle" ∧ yX4_isWind.cls ≠ "java/lang/invoke/VarHandle" ∧ (parseMethodDescriptor yX4_isWind.desc).map (fun d => d.parameters.length) = some 1 := by decide +kernel
abbrev rmX4_addToJump : Room := { frames := 1, cells := 0, slots := 0, locals := 29 }
theorem hd_X4_addToJump : yX4_addToJump.cls = RX4 ∧ yX4_addToJump.cls ≠ "java/lang/invoke/MethodHandle" ∧ yX4_addToJump.cls ≠ "java/lang/invoke/VarHandle" ∧ (parseMethodDescriptor yX4_addToJump.desc).map (fun d => d.parameters.length) = some 7 := by decide +kernel
theorem hn_X4_addToJump : yX4_addToJump.cls ≠ "java/lang/invoke/MethodHandle" ∧ yX4_addToJump.cls ≠ "java/lang/invoke/VarHandle" ∧ (parseMethodDescriptor yX4_addToJump.desc).map (fun d => d.parameters.length) = some 7 := by decide +kernel
theorem in_X4_addToJump_X1 : ∀ w ∈ u_ws RX1 TX1 4, w ∈ wsX4_addToJump := fun _ h => List.mem_cons_of_mem _ (List.mem_append_right _ h)
theorem in_X4_addToJump_X3 : ∀ w ∈ u_ws RX3 TX3 10, w ∈ wsX4_addToJump := fun _ h => List.mem_cons_of_mem _ (List.mem_append_left _ (List.mem_append_right _ h))
theorem in_X4_addToJump_X4 : ∀ w ∈ u_ws RX4 TX4 11, w ∈ wsX4_addToJump := fun _ h => List.mem_cons_of_mem _ (List.mem_append_left _ (List.mem_append_left _ (List.mem_append_right _ h)))
abbrev rmX4_wind : Room := { frames := 2, cells := 0, slots := 0, locals := 58 }
theorem hd_X4_wind : yX4_wind.cls = RX4 ∧ yX4_wind.cls ≠ "java/lang/invoke/MethodHandle" ∧ yX4_wind.cls ≠ "java/lang/invoke/VarHandle" ∧ (parseMethodDescriptor yX4_wind.desc).map (fun d => d.parameters.length) = some 6 := by decide +kernel
theorem hn_X4_wind : yX4_wind.cls ≠ "java/lang/invoke/MethodHandle" ∧ yX4_wind.cls ≠ "java/lang/invoke/VarHandle" ∧ (parseMethodDescriptor yX4_wind.desc).map (fun d => d.parameters.length) = some 6 := by decide +kernel
theorem in_X4_wind_X1 : ∀ w ∈ u_ws RX1 TX1 4, w ∈ wsX4_wind := fun _ h => List.mem_cons_of_mem _ (List.mem_append_right _ h)
theorem in_X4_wind_X3 : ∀ w ∈ u_ws RX3 TX3 10, w ∈ wsX4_wind := fun _ h => List.mem_cons_of_mem _ (List.mem_append_left _ (List.mem_append_right _ h))
theorem in_X4_wind_X4 : ∀ w ∈ u_ws RX4 TX4 11, w ∈ wsX4_wind := fun _ h => List.mem_cons_of_mem _ (List.mem_append_left _ (List.mem_append_left _ (List.mem_append_right _ h)))
abbrev rmX4_isMark : Room := { frames := 0, cells := 0, slots := 0, locals := 0 }
theorem hd_X4_isMark : yX4_isMark.cls = RX4 ∧ yX4_isMark.cls ≠ "java/lang/invoke/MethodHandle" ∧ yX4_isMark.cls ≠ "java/lang/invoke/VarHandle" ∧ (parseMethodDescriptor yX4_isMark.desc).map (fun d => d.parameters.length) = some 1 := by decide +kernel
theorem hn_X4_isMark : yX4_isMark.cls ≠ "java/lang/invoke/MethodHandle" ∧ yX4_isMark.cls ≠ "java/lang/invoke/VarHandle" ∧ (parseMethodDescriptor yX4_isMark.desc).map (fun d => d.parameters.length) = some 1 := by decide +kernel
abbrev rmX4_style : Room := { frames := 2, cells := 0, slots := 0, locals := 58 }
theorem hd_X4_style : yX4_style.cls = RX4 ∧ yX4_style.cls ≠ "java/lang/invoke/MethodHandle" ∧ yX4_style.cls ≠ "java/lang/invoke/VarHandle" ∧ (parseMethodDescriptor yX4_style.desc).map (fun d => d.parameters.length) = some 6 := by decide +kernel
theorem hn_X4_style : yX4_style.cls ≠ "java/lang/invoke/MethodHandle" ∧ yX4_style.cls ≠ "java/lang/invoke/VarHandle" ∧ (parseMethodDescriptor yX4_style.desc).map (fun d => d.parameters.length) = some 6 := by decide +kernel
theorem in_X4_style_X1 : ∀ w ∈ u_ws RX1 TX1 4, w ∈ wsX4_style := fun _ h => List.mem_cons_of_mem _ (List.mem_append_right _ h)
theorem in_X4_style_X3 : ∀ w ∈ u_ws RX3 TX3 10, w ∈ wsX4_style := fun _ h => List.mem_cons_of_mem _ (List.mem_append_left _ (List.mem_append_right _ h))
theorem in_X4_style_X4 : ∀ w ∈ u_ws RX4 TX4 11, w ∈ wsX4_style := fun _ h => List.mem_cons_of_mem _ (List.mem_append_left _ (List.mem_append_left _ (List.mem_append_right _ h)))
abbrev rmX4_strike : Room := { frames := 2, cells := 0, slots := 0, locals := 46 }
theorem hd_X4_strike : yX4_strike.cls = RX4 ∧ yX4_strike.cls ≠ "java/lang/invoke/MethodHandle" ∧ yX4_strike.cls ≠ "java/lang/invoke/VarHandle" ∧ (parseMethodDescriptor yX4_strike.desc).map (fun d => d.parameters.length) = some 3 := by decide +kernel
theorem hn_X4_strike : yX4_strike.cls ≠ "java/lang/invoke/MethodHandle" ∧ yX4_strike.cls ≠ "java/lang/invoke/VarHandle" ∧ (parseMethodDescriptor yX4_strike.desc).map (fun d => d.parameters.length) = some 3 := by decide +kernel
theorem in_X4_strike_X1 : ∀ w ∈ u_ws RX1 TX1 4, w ∈ wsX4_strike := fun _ h => List.mem_cons_of_mem _ (List.mem_append_right _ h)
theorem in_X4_strike_X3 : ∀ w ∈ u_ws RX3 TX3 10, w ∈ wsX4_strike := fun _ h => List.mem_cons_of_mem _ (List.mem_append_left _ (List.mem_append_right _ h))
theorem in_X4_strike_X4 : ∀ w ∈ u_ws RX4 TX4 11, w ∈ wsX4_strike := fun _ h => List.mem_cons_of_mem _ (List.mem_append_left _ (List.mem_append_left _ (List.mem_append_right _ h)))
abbrev rmX4_isKnowing : Room := { frames := 0, cells := 0, slots := 0, locals := 0 }
theorem hd_X4_isKnowing : yX4_isKnowing.cls = RX4 ∧ yX4_isKnowing.cls ≠ "java/lang/invoke/MethodHandle" ∧ yX4_isKnowing.cls ≠ "java/lang/invoke/VarHandle" ∧ (parseMethodDescriptor yX4_isKnowing.desc).map (fun d => d.parameters.length) = some 1 := by decide +kernel
theorem hn_X4_isKnowing : yX4_isKnowing.cls ≠ "java/lang/invoke/MethodHandle" ∧ yX4_isKnowing.cls ≠ "java/lang/invoke/VarHandle" ∧ (parseMethodDescriptor yX4_isKnowing.desc).map (fun d => d.parameters.length) = some 1 := by decide +kernel
theorem in_X4_isKnowing_X1 : ∀ w ∈ u_ws RX1 TX1 4, w ∈ wsX4_isKnowing := fun _ h => List.mem_cons_of_mem _ (List.mem_append_right _ h)
theorem in_X4_isKnowing_X3 : ∀ w ∈ u_ws RX3 TX3 10, w ∈ wsX4_isKnowing := fun _ h => List.mem_cons_of_mem _ (List.mem_append_left _ (List.mem_append_right _ h))
theorem in_X4_isKnowing_X4 : ∀ w ∈ u_ws RX4 TX4 11, w ∈ wsX4_isKnowing := fun _ h => List.mem_cons_of_mem _ (List.mem_append_left _ (List.mem_append_left _ (List.mem_append_right _ h)))
abbrev rmX4_partOfPoints : Room := { frames := 3, cells := 0, slots := 0, locals := 54 }
theorem hd_X4_partOfPoints : yX4_partOfPoints.cls = RX4 ∧ yX4_partOfPoints.cls ≠ "java/lang/invoke/MethodHandle" ∧ yX4_partOfPoints.cls ≠ "java/lang/invoke/VarHandle" ∧ (parseMethodDescriptor yX4_partOfPoints.desc).map (fun d => d.parameters.length) = some 1 := by decide +kernel
theorem hn_X4_partOfPoints : yX4_partOfPoints.cls ≠ "java/lang/invoke/MethodHandle" ∧ yX4_partOfPoints.cls ≠ "java/lang/invoke/VarHandle" ∧ (parseMethodDescriptor yX4_partOfPoints.desc).map (fun d => d.parameters.length) = some 1 := by decide +kernel
theorem in_X4_partOfPoints_X3 : ∀ w ∈ u_ws RX3 TX3 10, w ∈ wsX4_partOfPoints := fun _ h => List.mem_cons_of_mem _ (List.mem_append_right _ h)
theorem in_X4_partOfPoints_X4 : ∀ w ∈ u_ws RX4 TX4 11, w ∈ wsX4_partOfPoints := fun _ h => List.mem_cons_of_mem _ (List.mem_append_left _ (List.mem_append_right _ h))
abbrev rmX4_points : Room := { frames := 4, cells := 0, slots := 0, locals := 88 }
theorem hd_X4_points : yX4_points.cls = RX4 ∧ yX4_points.cls ≠ "java/lang/invoke/MethodHandle" ∧ yX4_points.cls ≠ "java/lang/invoke/VarHandle" ∧ (parseMethodDescriptor yX4_points.desc).map (fun d => d.parameters.length) = some 4 := by decide +kernel
theorem hn_X4_points : yX4_points.cls ≠ "java/lang/invoke/MethodHandle" ∧ yX4_points.cls ≠ "java/lang/invoke/VarHandle" ∧ (parseMethodDescriptor yX4_points.desc).map (fun d => d.parameters.length) = some 4 := by decide +kernel
theorem in_X4_points_X1 : ∀ w ∈ u_ws RX1 TX1 4, w ∈ wsX4_points := fun _ h => List.mem_cons_of_mem _ (List.mem_append_left _ (List.mem_append_right _ h))
theorem in_X4_points_X2 : ∀ w ∈ u_ws RX2 TX2 2, w ∈ wsX4_points := fun _ h => List.mem_cons_of_mem _ (List.mem_append_right _ h)
theorem in_X4_points_X3 : ∀ w ∈ u_ws RX3 TX3 10, w ∈ wsX4_points := fun _ h => List.mem_cons_of_mem _ (List.mem_append_left _ (List.mem_append_left _ (List.mem_append_right _ h)))
theorem in_X4_points_X4 : ∀ w ∈ u_ws RX4 TX4 11, w ∈ wsX4_points := fun _ h => List.mem_cons_of_mem _ (List.mem_append_left _ (List.mem_append_left _ (List.mem_append_left _ (List.mem_append_right _ h))))
abbrev rmX4_told : Room := { frames := 5, cells := 0, slots := 0, locals := 113 }
theorem hd_X4_told : yX4_told.cls = RX4 ∧ yX4_told.cls ≠ "java/lang/invoke/MethodHandle" ∧ yX4_told.cls ≠ "java/lang/invoke/VarHandle" ∧ (parseMethodDescriptor yX4_told.desc).map (fun d => d.parameters.length) = some 3 := by decide +kernel
theorem hn_X4_told : yX4_told.cls ≠ "java/lang/invoke/MethodHandle" ∧ yX4_told.cls ≠ "java/lang/invoke/VarHandle" ∧ (parseMethodDescriptor yX4_told.desc).map (fun d => d.parameters.length) = some 3 := by decide +kernel
theorem in_X4_told_X0 : ∀ w ∈ u_ws RX0 TX0 7, w ∈ wsX4_told := fun _ h => List.mem_cons_of_mem _ (List.mem_append_left _ (List.mem_append_right _ h))
theorem in_X4_told_X1 : ∀ w ∈ u_ws RX1 TX1 4, w ∈ wsX4_told := fun _ h => List.mem_cons_of_mem _ (List.mem_append_left _ (List.mem_append_left _ (List.mem_append_right _ h)))
theorem in_X4_told_X2 : ∀ w ∈ u_ws RX2 TX2 2, w ∈ wsX4_told := fun _ h => List.mem_cons_of_mem _ (List.mem_append_right _ h)
theorem in_X4_told_X3 : ∀ w ∈ u_ws RX3 TX3 10, w ∈ wsX4_told := fun _ h => List.mem_cons_of_mem _ (List.mem_append_left _ (List.mem_append_left _ (List.mem_append_left _ (List.mem_append_right _ h))))
theorem in_X4_told_X4 : ∀ w ∈ u_ws RX4 TX4 11, w ∈ wsX4_told := fun _ h => List.mem_cons_of_mem _ (List.mem_append_left _ (List.mem_append_left _ (List.mem_append_left _ (List.mem_append_left _ (List.mem_append_right _ h)))))
abbrev rmX4_list : Room := { frames := 5, cells := 0, slots := 0, locals := 113 }
theorem hd_X4_list : yX4_list.cls = RX4 ∧ yX4_list.cls ≠ "java/lang/invoke/MethodHandle" ∧ yX4_list.cls ≠ "java/lang/invoke/VarHandle" ∧ (parseMethodDescriptor yX4_list.desc).map (fun d => d.parameters.length) = some 2 := by decide +kernel
theorem hn_X4_list : yX4_list.cls ≠ "java/lang/invoke/MethodHandle" ∧ yX4_list.cls ≠ "java/lang/invoke/VarHandle" ∧ (parseMethodDescriptor yX4_list.desc).map (fun d => d.parameters.length) = some 2 := by decide +kernel
theorem in_X4_list_X0 : ∀ w ∈ u_ws RX0 TX0 7, w ∈ wsX4_list := fun _ h => List.mem_cons_of_mem _ (List.mem_append_left _ (List.mem_append_right _ h))
theorem in_X4_list_X1 : ∀ w ∈ u_ws RX1 TX1 4, w ∈ wsX4_list := fun _ h => List.mem_cons_of_mem _ (List.mem_append_left _ (List.mem_append_left _ (List.mem_append_right _ h)))
theorem in_X4_list_X2 : ∀ w ∈ u_ws RX2 TX2 2, w ∈ wsX4_list := fun _ h => List.mem_cons_of_mem _ (List.mem_append_right _ h)
theorem in_X4_list_X3 : ∀ w ∈ u_ws RX3 TX3 10, w ∈ wsX4_list := fun _ h => List.mem_cons_of_mem _ (List.mem_append_left _ (List.mem_append_left _ (List.mem_append_left _ (List.mem_append_right _ h))))
theorem in_X4_list_X4 : ∀ w ∈ u_ws RX4 TX4 11, w ∈ wsX4_list := fun _ h => List.mem_cons_of_mem _ (List.mem_append_left _ (List.mem_append_left _ (List.mem_append_left _ (List.mem_append_left _ (List.mem_append_right _ h)))))
abbrev rmX4_start : Room := { frames := 5, cells := 0, slots := 0, locals := 113 }
theorem hd_X4_start : yX4_start.cls = RX4 ∧ yX4_start.cls ≠ "java/lang/invoke/MethodHandle" ∧ yX4_start.cls ≠ "java/lang/invoke/VarHandle" ∧ (parseMethodDescriptor yX4_start.desc).map (fun d => d.parameters.length) = some 3 := by decide +kernel
theorem hn_X4_start : yX4_start.cls ≠ "java/lang/invoke/MethodHandle" ∧ yX4_start.cls ≠ "java/lang/invoke/VarHandle" ∧ (parseMethodDescriptor yX4_start.desc).map (fun d => d.parameters.length) = some 3 := by decide +kernel
theorem in_X4_start_X0 : ∀ w ∈ u_ws RX0 TX0 7, w ∈ wsX4_start := fun _ h => List.mem_cons_of_mem _ (List.mem_append_left _ (List.mem_append_right _ h))
theorem in_X4_start_X1 : ∀ w ∈ u_ws RX1 TX1 4, w ∈ wsX4_start := fun _ h => List.mem_cons_of_mem _ (List.mem_append_left _ (List.mem_append_left _ (List.mem_append_right _ h)))
theorem in_X4_start_X2 : ∀ w ∈ u_ws RX2 TX2 2, w ∈ wsX4_start := fun _ h => List.mem_cons_of_mem _ (List.mem_append_right _ h)
theorem in_X4_start_X3 : ∀ w ∈ u_ws RX3 TX3 10, w ∈ wsX4_start := fun _ h => List.mem_cons_of_mem _ (List.mem_append_left _ (List.mem_append_left _ (List.mem_append_left _ (List.mem_append_right _ h))))
theorem in_X4_start_X4 : ∀ w ∈ u_ws RX4 TX4 11, w ∈ wsX4_start := fun _ h => List.mem_cons_of_mem _ (List.mem_append_left _ (List.mem_append_left _ (List.mem_append_left _ (List.mem_append_left _ (List.mem_append_right _ h)))))
abbrev rmX4_teamTotal : Room := { frames := 1, cells := 0, slots := 0, locals := 21 }
theorem hd_X4_teamTotal : yX4_teamTotal.cls = RX4 ∧ yX4_teamTotal.cls ≠ "java/lang/invoke/MethodHandle" ∧ yX4_teamTotal.cls ≠ "java/lang/invoke/VarHandle" ∧ (parseMethodDescriptor yX4_teamTotal.desc).map (fun d => d.parameters.length) = some 1 := by decide +kernel
theorem hn_X4_teamTotal : yX4_teamTotal.cls ≠ "java/lang/invoke/MethodHandle" ∧ yX4_teamTotal.cls ≠ "java/lang/invoke/VarHandle" ∧ (parseMethodDescriptor yX4_teamTotal.desc).map (fun d => d.parameters.length) = some 1 := by decide +kernel
theorem in_X4_teamTotal_X0 : ∀ w ∈ u_ws RX0 TX0 7, w ∈ wsX4_teamTotal := fun _ h => List.mem_cons_of_mem _ (List.mem_append_right _ h)
theorem in_X4_teamTotal_X4 : ∀ w ∈ u_ws RX4 TX4 11, w ∈ wsX4_teamTotal := fun _ h => List.mem_cons_of_mem _ (List.mem_append_left _ (List.mem_append_right _ h))
abbrev rmX4_team : Room := { frames := 5, cells := 0, slots := 0, locals := 113 }
theorem hd_X4_team : yX4_team.cls = RX4 ∧ yX4_team.cls ≠ "java/lang/invoke/MethodHandle" ∧ yX4_team.cls ≠ "java/lang/invoke/VarHandle" ∧ (parseMethodDescriptor yX4_team.desc).map (fun d => d.parameters.length) = some 2 := by decide +kernel
theorem hn_X4_team : yX4_team.cls ≠ "java/lang/invoke/MethodHandle" ∧ yX4_team.cls ≠ "java/lang/invoke/VarHandle" ∧ (parseMethodDescriptor yX4_team.desc).map (fun d => d.parameters.length) = some 2 := by decide +kernel
theorem in_X4_team_X0 : ∀ w ∈ u_ws RX0 TX0 7, w ∈ wsX4_team := fun _ h => List.mem_cons_of_mem _ (List.mem_append_left _ (List.mem_append_right _ h))
theorem in_X4_team_X1 : ∀ w ∈ u_ws RX1 TX1 4, w ∈ wsX4_team := fun _ h => List.mem_cons_of_mem _ (List.mem_append_left _ (List.mem_append_left _ (List.mem_append_right _ h)))
theorem in_X4_team_X2 : ∀ w ∈ u_ws RX2 TX2 2, w ∈ wsX4_team := fun _ h => List.mem_cons_of_mem _ (List.mem_append_right _ h)
theorem in_X4_team_X3 : ∀ w ∈ u_ws RX3 TX3 10, w ∈ wsX4_team := fun _ h => List.mem_cons_of_mem _ (List.mem_append_left _ (List.mem_append_left _ (List.mem_append_left _ (List.mem_append_right _ h))))
theorem in_X4_team_X4 : ∀ w ∈ u_ws RX4 TX4 11, w ∈ wsX4_team := fun _ h => List.mem_cons_of_mem _ (List.mem_append_left _ (List.mem_append_left _ (List.mem_append_left _ (List.mem_append_left _ (List.mem_append_right _ h)))))
abbrev rmX4_recordJump : Room := { frames := 4, cells := 0, slots := 0, locals := 89 }
theorem hd_X4_recordJump : yX4_recordJump.cls = RX4 ∧ yX4_recordJump.cls ≠ "java/lang/invoke/MethodHandle" ∧ yX4_recordJump.cls ≠ "java/lang/invoke/VarHandle" ∧ (parseMethodDescriptor yX4_recordJump.desc).map (fun d => d.parameters.length) = some 0 := by decide +kernel
theorem hn_X4_recordJump : yX4_recordJump.cls ≠ "java/lang/invoke/MethodHandle" ∧ yX4_recordJump.cls ≠ "java/lang/invoke/VarHandle" ∧ (parseMethodDescriptor yX4_recordJump.desc).map (fun d => d.parameters.length) = some 0 := by decide +kernel
theorem in_X4_recordJump_X1 : ∀ w ∈ u_ws RX1 TX1 4, w ∈ wsX4_recordJump := fun _ h => List.mem_cons_of_mem _ (List.mem_append_right _ h)
theorem in_X4_recordJump_X3 : ∀ w ∈ u_ws RX3 TX3 10, w ∈ wsX4_recordJump := fun _ h => List.mem_cons_of_mem _ (List.mem_append_left _ (List.mem_append_right _ h))
theorem in_X4_recordJump_X4 : ∀ w ∈ u_ws RX4 TX4 11, w ∈ wsX4_recordJump := fun _ h => List.mem_cons_of_mem _ (List.mem_append_left _ (List.mem_append_left _ (List.mem_append_right _ h)))
abbrev rmX4_jumperOf : Room := { frames := 0, cells := 0, slots := 0, locals := 0 }
theorem hn_X4_jumperOf : yX4_jumperOf.cls ≠ "java/lang/invoke/MethodHandle" ∧ yX4_jumperOf.cls ≠ "java/lang/invoke/VarHandle" ∧ (parseMethodDescriptor yX4_jumperOf.desc).map (fun d => d.parameters.length) = some 1 := by decide +kernel
abbrev rmX4_record : Room := { frames := 5, cells := 0, slots := 0, locals := 111 }
theorem hd_X4_record : yX4_record.cls = RX4 ∧ yX4_record.cls ≠ "java/lang/invoke/MethodHandle" ∧ yX4_record.cls ≠ "java/lang/invoke/VarHandle" ∧ (parseMethodDescriptor yX4_record.desc).map (fun d => d.parameters.length) = some 1 := by decide +kernel
theorem hn_X4_record : yX4_record.cls ≠ "java/lang/invoke/MethodHandle" ∧ yX4_record.cls ≠ "java/lang/invoke/VarHandle" ∧ (parseMethodDescriptor yX4_record.desc).map (fun d => d.parameters.length) = some 1 := by decide +kernel
theorem in_X4_record_X1 : ∀ w ∈ u_ws RX1 TX1 4, w ∈ wsX4_record := fun _ h => List.mem_cons_of_mem _ (List.mem_append_right _ h)
theorem in_X4_record_X3 : ∀ w ∈ u_ws RX3 TX3 10, w ∈ wsX4_record := fun _ h => List.mem_cons_of_mem _ (List.mem_append_left _ (List.mem_append_right _ h))
theorem in_X4_record_X4 : ∀ w ∈ u_ws RX4 TX4 11, w ∈ wsX4_record := fun _ h => List.mem_cons_of_mem _ (List.mem_append_left _ (List.mem_append_left _ (List.mem_append_right _ h)))
abbrev rmX4_differ : Room := { frames := 5, cells := 0, slots := 0, locals := 113 }
theorem hd_X4_differ : yX4_differ.cls = RX4 ∧ yX4_differ.cls ≠ "java/lang/invoke/MethodHandle" ∧ yX4_differ.cls ≠ "java/lang/invoke/VarHandle" ∧ (parseMethodDescriptor yX4_differ.desc).map (fun d => d.parameters.length) = some 3 := by decide +kernel
theorem hn_X4_differ : yX4_differ.cls ≠ "java/lang/invoke/MethodHandle" ∧ yX4_differ.cls ≠ "java/lang/invoke/VarHandle" ∧ (parseMethodDescriptor yX4_differ.desc).map (fun d => d.parameters.length) = some 3 := by decide +kernel
theorem in_X4_differ_X0 : ∀ w ∈ u_ws RX0 TX0 7, w ∈ wsX4_differ := fun _ h => List.mem_cons_of_mem _ (List.mem_append_left _ (List.mem_append_right _ h))
theorem in_X4_differ_X1 : ∀ w ∈ u_ws RX1 TX1 4, w ∈ wsX4_differ := fun _ h => List.mem_cons_of_mem _ (List.mem_append_left _ (List.mem_append_left _ (List.mem_append_right _ h)))
theorem in_X4_differ_X2 : ∀ w ∈ u_ws RX2 TX2 2, w ∈ wsX4_differ := fun _ h => List.mem_cons_of_mem _ (List.mem_append_right _ h)
theorem in_X4_differ_X3 : ∀ w ∈ u_ws RX3 TX3 10, w ∈ wsX4_differ := fun _ h => List.mem_cons_of_mem _ (List.mem_append_left _ (List.mem_append_left _ (List.mem_append_left _ (List.mem_append_right _ h))))
theorem in_X4_differ_X4 : ∀ w ∈ u_ws RX4 TX4 11, w ∈ wsX4_differ := fun _ h => List.mem_cons_of_mem _ (List.mem_append_left _ (List.mem_append_left _ (List.mem_append_left _ (List.mem_append_left _ (List.mem_append_right _ h)))))
abbrev rmX4_seasonPoints : Room := { frames := 0, cells := 0, slots := 0, locals := 0 }
theorem hn_X4_seasonPoints : yX4_seasonPoints.cls ≠ "java/lang/invoke/MethodHandle" ∧ yX4_seasonPoints.cls ≠ "java/lang/invoke/VarHandle" ∧ (parseMethodDescriptor yX4_seasonPoints.desc).map (fun d => d.parameters.length) = some 1 := by decide +kernel
abbrev rmX4_keepRecord : Room := { frames := 5, cells := 0, slots := 0, locals := 111 }
theorem hd_X4_keepRecord : yX4_keepRecord.cls = RX4 ∧ yX4_keepRecord.cls ≠ "java/lang/invoke/MethodHandle" ∧ yX4_keepRecord.cls ≠ "java/lang/invoke/VarHandle" ∧ (parseMethodDescriptor yX4_keepRecord.desc).map (fun d => d.parameters.length) = some 0 := by decide +kernel
theorem hn_X4_keepRecord : yX4_keepRecord.cls ≠ "java/lang/invoke/MethodHandle" ∧ yX4_keepRecord.cls ≠ "java/lang/invoke/VarHandle" ∧ (parseMethodDescriptor yX4_keepRecord.desc).map (fun d => d.parameters.length) = some 0 := by decide +kernel
theorem in_X4_keepRecord_X1 : ∀ w ∈ u_ws RX1 TX1 4, w ∈ wsX4_keepRecord := fun _ h => List.mem_cons_of_mem _ (List.mem_append_right _ h)
theorem in_X4_keepRecord_X3 : ∀ w ∈ u_ws RX3 TX3 10, w ∈ wsX4_keepRecord := fun _ h => List.mem_cons_of_mem _ (List.mem_append_left _ (List.mem_append_right _ h))
theorem in_X4_keepRecord_X4 : ∀ w ∈ u_ws RX4 TX4 11, w ∈ wsX4_keepRecord := fun _ h => List.mem_cons_of_mem _ (List.mem_append_left _ (List.mem_append_left _ (List.mem_append_right _ h)))
abbrev rmX4_close : Room := { frames := 6, cells := 0, slots := 0, locals := 132 }
theorem hd_X4_close : yX4_close.cls = RX4 ∧ yX4_close.cls ≠ "java/lang/invoke/MethodHandle" ∧ yX4_close.cls ≠ "java/lang/invoke/VarHandle" ∧ (parseMethodDescriptor yX4_close.desc).map (fun d => d.parameters.length) = some 0 := by decide +kernel
theorem hn_X4_close : yX4_close.cls ≠ "java/lang/invoke/MethodHandle" ∧ yX4_close.cls ≠ "java/lang/invoke/VarHandle" ∧ (parseMethodDescriptor yX4_close.desc).map (fun d => d.parameters.length) = some 0 := by decide +kernel
theorem in_X4_close_X0 : ∀ w ∈ u_ws RX0 TX0 7, w ∈ wsX4_close := fun _ h => List.mem_cons_of_mem _ (List.mem_append_left _ (List.mem_append_right _ h))
theorem in_X4_close_X1 : ∀ w ∈ u_ws RX1 TX1 4, w ∈ wsX4_close := fun _ h => List.mem_cons_of_mem _ (List.mem_append_left _ (List.mem_append_left _ (List.mem_append_right _ h)))
theorem in_X4_close_X2 : ∀ w ∈ u_ws RX2 TX2 2, w ∈ wsX4_close := fun _ h => List.mem_cons_of_mem _ (List.mem_append_right _ h)
theorem in_X4_close_X3 : ∀ w ∈ u_ws RX3 TX3 10, w ∈ wsX4_close := fun _ h => List.mem_cons_of_mem _ (List.mem_append_left _ (List.mem_append_left _ (List.mem_append_left _ (List.mem_append_right _ h))))
theorem in_X4_close_X4 : ∀ w ∈ u_ws RX4 TX4 11, w ∈ wsX4_close := fun _ h => List.mem_cons_of_mem _ (List.mem_append_left _ (List.mem_append_left _ (List.mem_append_left _ (List.mem_append_left _ (List.mem_append_right _ h)))))
abbrev rmX4_count : Room := { frames := 5, cells := 0, slots := 0, locals := 113 }
theorem hd_X4_count : yX4_count.cls = RX4 ∧ yX4_count.cls ≠ "java/lang/invoke/MethodHandle" ∧ yX4_count.cls ≠ "java/lang/invoke/VarHandle" ∧ (parseMethodDescriptor yX4_count.desc).map (fun d => d.parameters.length) = some 1 := by decide +kernel
theorem hn_X4_count : yX4_count.cls ≠ "java/lang/invoke/MethodHandle" ∧ yX4_count.cls ≠ "java/lang/invoke/VarHandle" ∧ (parseMethodDescriptor yX4_count.desc).map (fun d => d.parameters.length) = some 1 := by decide +kernel
theorem in_X4_count_X0 : ∀ w ∈ u_ws RX0 TX0 7, w ∈ wsX4_count := fun _ h => List.mem_cons_of_mem _ (List.mem_append_left _ (List.mem_append_right _ h))
theorem in_X4_count_X1 : ∀ w ∈ u_ws RX1 TX1 4, w ∈ wsX4_count := fun _ h => List.mem_cons_of_mem _ (List.mem_append_left _ (List.mem_append_left _ (List.mem_append_right _ h)))
theorem in_X4_count_X2 : ∀ w ∈ u_ws RX2 TX2 2, w ∈ wsX4_count := fun _ h => List.mem_cons_of_mem _ (List.mem_append_right _ h)
theorem in_X4_count_X3 : ∀ w ∈ u_ws RX3 TX3 10, w ∈ wsX4_count := fun _ h => List.mem_cons_of_mem _ (List.mem_append_left _ (List.mem_append_left _ (List.mem_append_left _ (List.mem_append_right _ h))))
theorem in_X4_count_X4 : ∀ w ∈ u_ws RX4 TX4 11, w ∈ wsX4_count := fun _ h => List.mem_cons_of_mem _ (List.mem_append_left _ (List.mem_append_left _ (List.mem_append_left _ (List.mem_append_left _ (List.mem_append_right _ h)))))
abbrev rmX5_asAtFirst : Room := { frames := 0, cells := 0, slots := 0, locals := 0 }
theorem hn_X5_asAtFirst : yX5_asAtFirst.cls ≠ "java/lang/invoke/MethodHandle" ∧ yX5_asAtFirst.cls ≠ "java/lang/invoke/VarHandle" ∧ (parseMethodDescriptor yX5_asAtFirst.desc).map (fun d => d.parameters.length) = some 1 := by decide +kernel
abbrev rmX5_lies : Room := { frames := 0, cells := 0, slots := 0, locals := 0 }
theorem hn_X5_lies : yX5_lies.cls ≠ "java/lang/invoke/MethodHandle" ∧ yX5_lies.cls ≠ "java/lang/invoke/VarHandle" ∧ (parseMethodDescriptor yX5_lies.desc).map (fun d => d.parameters.length) = some 3 := by decide +kernel
abbrev rmX5_push : Room := { frames := 0, cells := 0, slots := 0, locals := 0 }
theorem hd_X5_push : yX5_push.cls = RX5 ∧ yX5_push.cls ≠ "java/lang/invoke/MethodHandle" ∧ yX5_push.cls ≠ "java/lang/invoke/VarHandle" ∧ (parseMethodDescriptor yX5_push.desc).map (fun d => d.parameters.length) = some 1 := by decide +kernel
theorem hn_X5_push : yX5_push.cls ≠ "java/lang/invoke/MethodHandle" ∧ yX5_push.cls ≠ "java/lang/invoke/VarHandle" ∧ (parseMethodDescriptor yX5_push.desc).map (fun d => d.parameters.length) = some 1 := by decide +kernel
theorem in_X5_push_X5 : ∀ w ∈ u_ws RX5 TX5 21, w ∈ wsX5_push := fun _ h => List.mem_cons_of_mem _ (List.mem_append_right _ h)
abbrev rmX5_feed : Room := { frames := 1, cells := 0, slots := 0, locals := 22 }
theorem hd_X5_feed : yX5_feed.cls = RX5 ∧ yX5_feed.cls ≠ "java/lang/invoke/MethodHandle" ∧ yX5_feed.cls ≠ "java/lang/invoke/VarHandle" ∧ (parseMethodDescriptor yX5_feed.desc).map (fun d => d.parameters.length) = some 5 := by decide +kernel
theorem hn_X5_feed : yX5_feed.cls ≠ "java/lang/invoke/MethodHandle" ∧ yX5_feed.cls ≠ "java/lang/invoke/VarHandle" ∧ (parseMethodDescriptor yX5_feed.desc).map (fun d => d.parameters.length) = some 5 := by decide +kernel
theorem in_X5_feed_X5 : ∀ w ∈ u_ws RX5 TX5 21, w ∈ wsX5_feed := fun _ h => List.mem_cons_of_mem _ (List.mem_append_right _ h)
abbrev rmX5_letter : Room := { frames := 0, cells := 0, slots := 0, locals := 0 }
theorem hn_X5_letter : yX5_letter.cls ≠ "java/lang/invoke/MethodHandle" ∧ yX5_letter.cls ≠ "java/lang/invoke/VarHandle" ∧ (parseMethodDescriptor yX5_letter.desc).map (fun d => d.parameters.length) = some 1 := by decide +kernel
abbrev rmX5_canBe : Room := { frames := 1, cells := 0, slots := 0, locals := 22 }
theorem hn_X5_canBe : yX5_canBe.cls ≠ "java/lang/invoke/MethodHandle" ∧ yX5_canBe.cls ≠ "java/lang/invoke/VarHandle" ∧ (parseMethodDescriptor yX5_canBe.desc).map (fun d => d.parameters.length) = some 2 := by decide +kernel
abbrev rmX5_at : Room := { frames := 0, cells := 0, slots := 0, locals := 0 }
theorem hd_X5_at : yX5_at.cls = RX5 ∧ yX5_at.cls ≠ "java/lang/invoke/MethodHandle" ∧ yX5_at.cls ≠ "java/lang/invoke/VarHandle" ∧ (parseMethodDescriptor yX5_at.desc).map (fun d => d.parameters.length) = some 2 := by decide +kernel
theorem hn_X5_at : yX5_at.cls ≠ "java/lang/invoke/MethodHandle" ∧ yX5_at.cls ≠ "java/lang/invoke/VarHandle" ∧ (parseMethodDescriptor yX5_at.desc).map (fun d => d.parameters.length) = some 2 := by decide +kernel
theorem in_X5_at_X5 : ∀ w ∈ u_ws RX5 TX5 21, w ∈ wsX5_at := fun _ h => List.mem_cons_of_mem _ (List.mem_append_right _ h)
abbrev rmX5_reads : Room := { frames := 2, cells := 0, slots := 0, locals := 43 }
theorem hd_X5_reads : yX5_reads.cls = RX5 ∧ yX5_reads.cls ≠ "java/lang/invoke/MethodHandle" ∧ yX5_reads.cls ≠ "java/lang/invoke/VarHandle" ∧ (parseMethodDescriptor yX5_reads.desc).map (fun d => d.parameters.length) = some 1 := by decide +kernel
theorem hn_X5_reads : yX5_reads.cls ≠ "java/lang/invoke/MethodHandle" ∧ yX5_reads.cls ≠ "java/lang/invoke/VarHandle" ∧ (parseMethodDescriptor yX5_reads.desc).map (fun d => d.parameters.length) = some 1 := by decide +kernel
theorem in_X5_reads_X5 : ∀ w ∈ u_ws RX5 TX5 21, w ∈ wsX5_reads := fun _ h => List.mem_cons_of_mem _ (List.mem_append_right _ h)
abbrev rmX5_rules : Room := { frames := 3, cells := 0, slots := 0, locals := 69 }
theorem hd_X5_rules : yX5_rules.cls = RX5 ∧ yX5_rules.cls ≠ "java/lang/invoke/MethodHandle" ∧ yX5_rules.cls ≠ "java/lang/invoke/VarHandle" ∧ (parseMethodDescriptor yX5_rules.desc).map (fun d => d.parameters.length) = some 1 := by decide +kernel
theorem hn_X5_rules : yX5_rules.cls ≠ "java/lang/invoke/MethodHandle" ∧ yX5_rules.cls ≠ "java/lang/invoke/VarHandle" ∧ (parseMethodDescriptor yX5_rules.desc).map (fun d => d.parameters.length) = some 1 := by decide +kernel
theorem in_X5_rules_X5 : ∀ w ∈ u_ws RX5 TX5 21, w ∈ wsX5_rules := fun _ h => List.mem_cons_of_mem _ (List.mem_append_right _ h)
abbrev rmX5_rule : Room := { frames := 1, cells := 0, slots := 0, locals := 22 }
theorem hd_X5_rule : yX5_rule.cls = RX5 ∧ yX5_rule.cls ≠ "java/lang/invoke/MethodHandle" ∧ yX5_rule.cls ≠ "java/lang/invoke/VarHandle" ∧ (parseMethodDescriptor yX5_rule.desc).map (fun d => d.parameters.length) = some 1 := by decide +kernel
theorem hn_X5_rule : yX5_rule.cls ≠ "java/lang/invoke/MethodHandle" ∧ yX5_rule.cls ≠ "java/lang/invoke/VarHandle" ∧ (parseMethodDescriptor yX5_rule.desc).map (fun d => d.parameters.length) = some 1 := by decide +kernel
theorem in_X5_rule_X5 : ∀ w ∈ u_ws RX5 TX5 21, w ∈ wsX5_rule := fun _ h => List.mem_cons_of_mem _ (List.mem_append_right _ h)
abbrev rmX5_jumper : Room := { frames := 1, cells := 0, slots := 0, locals := 22 }
theorem hd_X5_jumper : yX5_jumper.cls = RX5 ∧ yX5_jumper.cls ≠ "java/lang/invoke/MethodHandle" ∧ yX5_jumper.cls ≠ "java/lang/invoke/VarHandle" ∧ (parseMethodDescriptor yX5_jumper.desc).map (fun d => d.parameters.length) = some 1 := by decide +kernel
theorem hn_X5_jumper : yX5_jumper.cls ≠ "java/lang/invoke/MethodHandle" ∧ yX5_jumper.cls ≠ "java/lang/invoke/VarHandle" ∧ (parseMethodDescriptor yX5_jumper.desc).map (fun d => d.parameters.length) = some 1 := by decide +kernel
theorem in_X5_jumper_X5 : ∀ w ∈ u_ws RX5 TX5 21, w ∈ wsX5_jumper := fun _ h => List.mem_cons_of_mem _ (List.mem_append_right _ h)
abbrev rmX5_isJumper : Room := { frames := 1, cells := 0, slots := 0, locals := 22 }
theorem hd_X5_isJumper : yX5_isJumper.cls = RX5 ∧ yX5_isJumper.cls ≠ "java/lang/invoke/MethodHandle" ∧ yX5_isJumper.cls ≠ "java/lang/invoke/VarHandle" ∧ (parseMethodDescriptor yX5_isJumper.desc).map (fun d => d.parameters.length) = some 1 := by decide +kernel
theorem hn_X5_isJumper : yX5_isJumper.cls ≠ "java/lang/invoke/MethodHandle" ∧ yX5_isJumper.cls ≠ "java/lang/invoke/VarHandle" ∧ (parseMethodDescriptor yX5_isJumper.desc).map (fun d => d.parameters.length) = some 1 := by decide +kernel
theorem in_X5_isJumper_X5 : ∀ w ∈ u_ws RX5 TX5 21, w ∈ wsX5_isJumper := fun _ h => List.mem_cons_of_mem _ (List.mem_append_right _ h)
abbrev rmX5_sensor : Room := { frames := 1, cells := 0, slots := 0, locals := 22 }
theorem hd_X5_sensor : yX5_sensor.cls = RX5 ∧ yX5_sensor.cls ≠ "java/lang/invoke/MethodHandle" ∧ yX5_sensor.cls ≠ "java/lang/invoke/VarHandle" ∧ (parseMethodDescriptor yX5_sensor.desc).map (fun d => d.parameters.length) = some 2 := by decide +kernel
theorem hn_X5_sensor : yX5_sensor.cls ≠ "java/lang/invoke/MethodHandle" ∧ yX5_sensor.cls ≠ "java/lang/invoke/VarHandle" ∧ (parseMethodDescriptor yX5_sensor.desc).map (fun d => d.parameters.length) = some 2 := by decide +kernel
theorem in_X5_sensor_X5 : ∀ w ∈ u_ws RX5 TX5 21, w ∈ wsX5_sensor := fun _ h => List.mem_cons_of_mem _ (List.mem_append_right _ h)
abbrev rmX5_base : Room := { frames := 1, cells := 0, slots := 0, locals := 22 }
theorem hd_X5_base : yX5_base.cls = RX5 ∧ yX5_base.cls ≠ "java/lang/invoke/MethodHandle" ∧ yX5_base.cls ≠ "java/lang/invoke/VarHandle" ∧ (parseMethodDescriptor yX5_base.desc).map (fun d => d.parameters.length) = some 1 := by decide +kernel
theorem hn_X5_base : yX5_base.cls ≠ "java/lang/invoke/MethodHandle" ∧ yX5_base.cls ≠ "java/lang/invoke/VarHandle" ∧ (parseMethodDescriptor yX5_base.desc).map (fun d => d.parameters.length) = some 1 := by decide +kernel
theorem in_X5_base_X5 : ∀ w ∈ u_ws RX5 TX5 21, w ∈ wsX5_base := fun _ h => List.mem_cons_of_mem _ (List.mem_append_right _ h)
abbrev rmX5_isJump : Room := { frames := 2, cells := 0, slots := 0, locals := 43 }
theorem hd_X5_isJump : yX5_isJump.cls = RX5 ∧ yX5_isJump.cls ≠ "java/lang/invoke/MethodHandle" ∧ yX5_isJump.cls ≠ "java/lang/invoke/VarHandle" ∧ (parseMethodDescriptor yX5_isJump.desc).map (fun d => d.parameters.length) = some 1 := by decide +kernel
theorem hn_X5_isJump : yX5_isJump.cls ≠ "java/lang/invoke/MethodHandle" ∧ yX5_isJump.cls ≠ "java/lang/invoke/VarHandle" ∧ (parseMethodDescriptor yX5_isJump.desc).map (fun d => d.parameters.length) = some 1 := by decide +kernel
theorem in_X5_isJump_X5 : ∀ w ∈ u_ws RX5 TX5 21, w ∈ wsX5_isJump := fun _ h => List.mem_cons_of_mem _ (List.mem_append_right _ h)
abbrev rmX5_tells : Room := { frames := 0, cells := 0, slots := 0, locals := 0 }
theorem hd_X5_tells : yX5_tells.cls = RX5 ∧ yX5_tells.cls ≠ "java/lang/invoke/MethodHandle" ∧ yX5_tells.cls ≠ "java/lang/invoke/VarHandle" ∧ (parseMethodDescriptor yX5_tells.desc).map (fun d => d.parameters.length) = some 7 := by decide +kernel
theorem hn_X5_tells : yX5_tells.cls ≠ "java/lang/invoke/MethodHandle" ∧ yX5_tells.cls ≠ "java/lang/invoke/VarHandle" ∧ (parseMethodDescriptor yX5_tells.desc).map (fun d => d.parameters.length) = some 7 := by decide +kernel
theorem in_X5_tells_X5 : ∀ w ∈ u_ws RX5 TX5 21, w ∈ wsX5_tells := fun _ h => List.mem_cons_of_mem _ (List.mem_append_right _ h)
abbrev rmX5_reading : Room := { frames := 2, cells := 0, slots := 0, locals := 43 }
theorem hd_X5_reading : yX5_reading.cls = RX5 ∧ yX5_reading.cls ≠ "java/lang/invoke/MethodHandle" ∧ yX5_reading.cls ≠ "java/lang/invoke/VarHandle" ∧ (parseMethodDescriptor yX5_reading.desc).map (fun d => d.parameters.length) = some 5 := by decide +kernel
theorem hn_X5_reading : yX5_reading.cls ≠ "java/lang/invoke/MethodHandle" ∧ yX5_reading.cls ≠ "java/lang/invoke/VarHandle" ∧ (parseMethodDescriptor yX5_reading.desc).map (fun d => d.parameters.length) = some 5 := by decide +kernel
theorem in_X5_reading_X5 : ∀ w ∈ u_ws RX5 TX5 21, w ∈ wsX5_reading := fun _ h => List.mem_cons_of_mem _ (List.mem_append_right _ h)
abbrev rmX5_isWind : Room := { frames := 1, cells := 0, slots := 0, locals := 22 }
theorem hn_X5_isWind : yX5_isWind.cls ≠ "java/lang/invoke/MethodHandle" ∧ yX5_isWind.cls ≠ "java/lang/invoke/VarHandle" ∧ (parseMethodDescriptor yX5_isWind.desc).map (fun d => d.parameters.length) = some 1 := by decide +kernel
abbrev rmX5_wind : Room := { frames := 3, cells := 0, slots := 0, locals := 64 }
theorem hd_X5_wind : yX5_wind.cls = RX5 ∧ yX5_wind.cls ≠ "java/lang/invoke/MethodHandle" ∧ yX5_wind.cls ≠ "java/lang/invoke/VarHandle" ∧ (parseMethodDescriptor yX5_wind.desc).map (fun d => d.parameters.length) = some 6 := by decide +kernel
theorem hn_X5_wind : yX5_wind.cls ≠ "java/lang/invoke/MethodHandle" ∧ yX5_wind.cls ≠ "java/lang/invoke/VarHandle" ∧ (parseMethodDescriptor yX5_wind.desc).map (fun d => d.parameters.length) = some 6 := by decide +kernel
theorem in_X5_wind_X5 : ∀ w ∈ u_ws RX5 TX5 21, w ∈ wsX5_wind := fun _ h => List.mem_cons_of_mem _ (List.mem_append_right _ h)
abbrev rmX5_isMark : Room := { frames := 1, cells := 0, slots := 0, locals := 22 }
theorem hn_X5_isMark : yX5_isMark.cls ≠ "java/lang/invoke/MethodHandle" ∧ yX5_isMark.cls ≠ "java/lang/invoke/VarHandle" ∧ (parseMethodDescriptor yX5_isMark.desc).map (fun d => d.parameters.length) = some 1 := by decide +kernel
abbrev rmX5_style : Room := { frames := 3, cells := 0, slots := 0, locals := 64 }
theorem hd_X5_style : yX5_style.cls = RX5 ∧ yX5_style.cls ≠ "java/lang/invoke/MethodHandle" ∧ yX5_style.cls ≠ "java/lang/invoke/VarHandle" ∧ (parseMethodDescriptor yX5_style.desc).map (fun d => d.parameters.length) = some 6 := by decide +kernel
theorem hn_X5_style : yX5_style.cls ≠ "java/lang/invoke/MethodHandle" ∧ yX5_style.cls ≠ "java/lang/invoke/VarHandle" ∧ (parseMethodDescriptor yX5_style.desc).map (fun d => d.parameters.length) = some 6 := by decide +kernel
theorem in_X5_style_X5 : ∀ w ∈ u_ws RX5 TX5 21, w ∈ wsX5_style := fun _ h => List.mem_cons_of_mem _ (List.mem_append_right _ h)
abbrev rmX5_lastOf : Room := { frames := 0, cells := 0, slots := 0, locals := 0 }
theorem hd_X5_lastOf : yX5_lastOf.cls = RX5 ∧ yX5_lastOf.cls ≠ "java/lang/invoke/MethodHandle" ∧ yX5_lastOf.cls ≠ "java/lang/invoke/VarHandle" ∧ (parseMethodDescriptor yX5_lastOf.desc).map (fun d => d.parameters.length) = some 3 := by decide +kernel
theorem hn_X5_lastOf : yX5_lastOf.cls ≠ "java/lang/invoke/MethodHandle" ∧ yX5_lastOf.cls ≠ "java/lang/invoke/VarHandle" ∧ (parseMethodDescriptor yX5_lastOf.desc).map (fun d => d.parameters.length) = some 3 := by decide +kernel
theorem in_X5_lastOf_X5 : ∀ w ∈ u_ws RX5 TX5 21, w ∈ wsX5_lastOf := fun _ h => List.mem_cons_of_mem _ (List.mem_append_right _ h)
abbrev rmX5_isStruck : Room := { frames := 1, cells := 0, slots := 0, locals := 24 }
theorem hd_X5_isStruck : yX5_isStruck.cls = RX5 ∧ yX5_isStruck.cls ≠ "java/lang/invoke/MethodHandle" ∧ yX5_isStruck.cls ≠ "java/lang/invoke/VarHandle" ∧ (parseMethodDescriptor yX5_isStruck.desc).map (fun d => d.parameters.length) = some 2 := by decide +kernel
theorem hn_X5_isStruck : yX5_isStruck.cls ≠ "java/lang/invoke/MethodHandle" ∧ yX5_isStruck.cls ≠ "java/lang/invoke/VarHandle" ∧ (parseMethodDescriptor yX5_isStruck.desc).map (fun d => d.parameters.length) = some 2 := by decide +kernel
theorem in_X5_isStruck_X5 : ∀ w ∈ u_ws RX5 TX5 21, w ∈ wsX5_isStruck := fun _ h => List.mem_cons_of_mem _ (List.mem_append_right _ h)
abbrev rmX5_strike : Room := { frames := 2, cells := 0, slots := 0, locals := 47 }
theorem hd_X5_strike : yX5_strike.cls = RX5 ∧ yX5_strike.cls ≠ "java/lang/invoke/MethodHandle" ∧ yX5_strike.cls ≠ "java/lang/invoke/VarHandle" ∧ (parseMethodDescriptor yX5_strike.desc).map (fun d => d.parameters.length) = some 3 := by decide +kernel
theorem hn_X5_strike : yX5_strike.cls ≠ "java/lang/invoke/MethodHandle" ∧ yX5_strike.cls ≠ "java/lang/invoke/VarHandle" ∧ (parseMethodDescriptor yX5_strike.desc).map (fun d => d.parameters.length) = some 3 := by decide +kernel
theorem in_X5_strike_X5 : ∀ w ∈ u_ws RX5 TX5 21, w ∈ wsX5_strike := fun _ h => List.mem_cons_of_mem _ (List.mem_append_right _ h)
abbrev rmX5_has : Room := { frames := 2, cells := 0, slots := 0, locals := 47 }
theorem hd_X5_has : yX5_has.cls = RX5 ∧ yX5_has.cls ≠ "java/lang/invoke/MethodHandle" ∧ yX5_has.cls ≠ "java/lang/invoke/VarHandle" ∧ (parseMethodDescriptor yX5_has.desc).map (fun d => d.parameters.length) = some 2 := by decide +kernel
theorem hn_X5_has : yX5_has.cls ≠ "java/lang/invoke/MethodHandle" ∧ yX5_has.cls ≠ "java/lang/invoke/VarHandle" ∧ (parseMethodDescriptor yX5_has.desc).map (fun d => d.parameters.length) = some 2 := by decide +kernel
theorem in_X5_has_X5 : ∀ w ∈ u_ws RX5 TX5 21, w ∈ wsX5_has := fun _ h => List.mem_cons_of_mem _ (List.mem_append_right _ h)
abbrev rmX5_nearest : Room := { frames := 0, cells := 0, slots := 0, locals := 0 }
theorem hn_X5_nearest : yX5_nearest.cls ≠ "java/lang/invoke/MethodHandle" ∧ yX5_nearest.cls ≠ "java/lang/invoke/VarHandle" ∧ (parseMethodDescriptor yX5_nearest.desc).map (fun d => d.parameters.length) = some 2 := by decide +kernel
abbrev rmX5_mean : Room := { frames := 1, cells := 0, slots := 0, locals := 24 }
theorem hd_X5_mean : yX5_mean.cls = RX5 ∧ yX5_mean.cls ≠ "java/lang/invoke/MethodHandle" ∧ yX5_mean.cls ≠ "java/lang/invoke/VarHandle" ∧ (parseMethodDescriptor yX5_mean.desc).map (fun d => d.parameters.length) = some 2 := by decide +kernel
theorem hn_X5_mean : yX5_mean.cls ≠ "java/lang/invoke/MethodHandle" ∧ yX5_mean.cls ≠ "java/lang/invoke/VarHandle" ∧ (parseMethodDescriptor yX5_mean.desc).map (fun d => d.parameters.length) = some 2 := by decide +kernel
theorem in_X5_mean_X5 : ∀ w ∈ u_ws RX5 TX5 21, w ∈ wsX5_mean := fun _ h => List.mem_cons_of_mem _ (List.mem_append_right _ h)
abbrev rmX5_style_ : Room := { frames := 1, cells := 0, slots := 0, locals := 24 }
theorem hd_X5_style_ : yX5_style_.cls = RX5 ∧ yX5_style_.cls ≠ "java/lang/invoke/MethodHandle" ∧ yX5_style_.cls ≠ "java/lang/invoke/VarHandle" ∧ (parseMethodDescriptor yX5_style_.desc).map (fun d => d.parameters.length) = some 2 := by decide +kernel
theorem hn_X5_style_ : yX5_style_.cls ≠ "java/lang/invoke/MethodHandle" ∧ yX5_style_.cls ≠ "java/lang/invoke/VarHandle" ∧ (parseMethodDescriptor yX5_style_.desc).map (fun d => d.parameters.length) = some 2 := by decide +kernel
theorem in_X5_style__X5 : ∀ w ∈ u_ws RX5 TX5 21, w ∈ wsX5_style_ := fun _ h => List.mem_cons_of_mem _ (List.mem_append_right _ h)
abbrev rmX5_part : Room := { frames := 2, cells := 0, slots := 0, locals := 52 }
theorem hd_X5_part : yX5_part.cls = RX5 ∧ yX5_part.cls ≠ "java/lang/invoke/MethodHandle" ∧ yX5_part.cls ≠ "java/lang/invoke/VarHandle" ∧ (parseMethodDescriptor yX5_part.desc).map (fun d => d.parameters.length) = some 3 := by decide +kernel
theorem hn_X5_part : yX5_part.cls ≠ "java/lang/invoke/MethodHandle" ∧ yX5_part.cls ≠ "java/lang/invoke/VarHandle" ∧ (parseMethodDescriptor yX5_part.desc).map (fun d => d.parameters.length) = some 3 := by decide +kernel
theorem in_X5_part_X5 : ∀ w ∈ u_ws RX5 TX5 21, w ∈ wsX5_part := fun _ h => List.mem_cons_of_mem _ (List.mem_append_right _ h)
abbrev rmX5_without : Room := { frames := 3, cells := 0, slots := 0, locals := 76 }
theorem hd_X5_without : yX5_without.cls = RX5 ∧ yX5_without.cls ≠ "java/lang/invoke/MethodHandle" ∧ yX5_without.cls ≠ "java/lang/invoke/VarHandle" ∧ (parseMethodDescriptor yX5_without.desc).map (fun d => d.parameters.length) = some 3 := by decide +kernel
theorem hn_X5_without : yX5_without.cls ≠ "java/lang/invoke/MethodHandle" ∧ yX5_without.cls ≠ "java/lang/invoke/VarHandle" ∧ (parseMethodDescriptor yX5_without.desc).map (fun d => d.parameters.length) = some 3 := by decide +kernel
theorem in_X5_without_X5 : ∀ w ∈ u_ws RX5 TX5 21, w ∈ wsX5_without := fun _ h => List.mem_cons_of_mem _ (List.mem_append_right _ h)
abbrev rmX5_isKnowing : Room := { frames := 1, cells := 0, slots := 0, locals := 22 }
theorem hd_X5_isKnowing : yX5_isKnowing.cls = RX5 ∧ yX5_isKnowing.cls ≠ "java/lang/invoke/MethodHandle" ∧ yX5_isKnowing.cls ≠ "java/lang/invoke/VarHandle" ∧ (parseMethodDescriptor yX5_isKnowing.desc).map (fun d => d.parameters.length) = some 1 := by decide +kernel
theorem hn_X5_isKnowing : yX5_isKnowing.cls ≠ "java/lang/invoke/MethodHandle" ∧ yX5_isKnowing.cls ≠ "java/lang/invoke/VarHandle" ∧ (parseMethodDescriptor yX5_isKnowing.desc).map (fun d => d.parameters.length) = some 1 := by decide +kernel
theorem in_X5_isKnowing_X5 : ∀ w ∈ u_ws RX5 TX5 21, w ∈ wsX5_isKnowing := fun _ h => List.mem_cons_of_mem _ (List.mem_append_right _ h)
abbrev rmX5_points : Room := { frames := 4, cells := 0, slots := 0, locals := 101 }
theorem hd_X5_points : yX5_points.cls = RX5 ∧ yX5_points.cls ≠ "java/lang/invoke/MethodHandle" ∧ yX5_points.cls ≠ "java/lang/invoke/VarHandle" ∧ (parseMethodDescriptor yX5_points.desc).map (fun d => d.parameters.length) = some 4 := by decide +kernel
theorem hn_X5_points : yX5_points.cls ≠ "java/lang/invoke/MethodHandle" ∧ yX5_points.cls ≠ "java/lang/invoke/VarHandle" ∧ (parseMethodDescriptor yX5_points.desc).map (fun d => d.parameters.length) = some 4 := by decide +kernel
theorem in_X5_points_X5 : ∀ w ∈ u_ws RX5 TX5 21, w ∈ wsX5_points := fun _ h => List.mem_cons_of_mem _ (List.mem_append_right _ h)
abbrev rmX5_works : Room := { frames := 4, cells := 0, slots := 0, locals := 101 }
theorem hd_X5_works : yX5_works.cls = RX5 ∧ yX5_works.cls ≠ "java/lang/invoke/MethodHandle" ∧ yX5_works.cls ≠ "java/lang/invoke/VarHandle" ∧ (parseMethodDescriptor yX5_works.desc).map (fun d => d.parameters.length) = some 1 := by decide +kernel
theorem hn_X5_works : yX5_works.cls ≠ "java/lang/invoke/MethodHandle" ∧ yX5_works.cls ≠ "java/lang/invoke/VarHandle" ∧ (parseMethodDescriptor yX5_works.desc).map (fun d => d.parameters.length) = some 1 := by decide +kernel
theorem in_X5_works_X5 : ∀ w ∈ u_ws RX5 TX5 21, w ∈ wsX5_works := fun _ h => List.mem_cons_of_mem _ (List.mem_append_right _ h)
abbrev rmX5_isBefore : Room := { frames := 0, cells := 0, slots := 0, locals := 0 }
theorem hd_X5_isBefore : yX5_isBefore.cls = RX5 ∧ yX5_isBefore.cls ≠ "java/lang/invoke/MethodHandle" ∧ yX5_isBefore.cls ≠ "java/lang/invoke/VarHandle" ∧ (parseMethodDescriptor yX5_isBefore.desc).map (fun d => d.parameters.length) = some 2 := by decide +kernel
theorem hn_X5_isBefore : yX5_isBefore.cls ≠ "java/lang/invoke/MethodHandle" ∧ yX5_isBefore.cls ≠ "java/lang/invoke/VarHandle" ∧ (parseMethodDescriptor yX5_isBefore.desc).map (fun d => d.parameters.length) = some 2 := by decide +kernel
theorem in_X5_isBefore_X5 : ∀ w ∈ u_ws RX5 TX5 21, w ∈ wsX5_isBefore := fun _ h => List.mem_cons_of_mem _ (List.mem_append_right _ h)
abbrev rmX5_place : Room := { frames := 1, cells := 0, slots := 0, locals := 22 }
theorem hd_X5_place : yX5_place.cls = RX5 ∧ yX5_place.cls ≠ "java/lang/invoke/MethodHandle" ∧ yX5_place.cls ≠ "java/lang/invoke/VarHandle" ∧ (parseMethodDescriptor yX5_place.desc).map (fun d => d.parameters.length) = some 1 := by decide +kernel
theorem hn_X5_place : yX5_place.cls ≠ "java/lang/invoke/MethodHandle" ∧ yX5_place.cls ≠ "java/lang/invoke/VarHandle" ∧ (parseMethodDescriptor yX5_place.desc).map (fun d => d.parameters.length) = some 1 := by decide +kernel
theorem in_X5_place_X5 : ∀ w ∈ u_ws RX5 TX5 21, w ∈ wsX5_place := fun _ h => List.mem_cons_of_mem _ (List.mem_append_right _ h)
abbrev rmX5_told : Room := { frames := 5, cells := 0, slots := 0, locals := 126 }
theorem hd_X5_told : yX5_told.cls = RX5 ∧ yX5_told.cls ≠ "java/lang/invoke/MethodHandle" ∧ yX5_told.cls ≠ "java/lang/invoke/VarHandle" ∧ (parseMethodDescriptor yX5_told.desc).map (fun d => d.parameters.length) = some 3 := by decide +kernel
theorem hn_X5_told : yX5_told.cls ≠ "java/lang/invoke/MethodHandle" ∧ yX5_told.cls ≠ "java/lang/invoke/VarHandle" ∧ (parseMethodDescriptor yX5_told.desc).map (fun d => d.parameters.length) = some 3 := by decide +kernel
theorem in_X5_told_X5 : ∀ w ∈ u_ws RX5 TX5 21, w ∈ wsX5_told := fun _ h => List.mem_cons_of_mem _ (List.mem_append_right _ h)
abbrev rmX5_list : Room := { frames := 5, cells := 0, slots := 0, locals := 126 }
theorem hd_X5_list : yX5_list.cls = RX5 ∧ yX5_list.cls ≠ "java/lang/invoke/MethodHandle" ∧ yX5_list.cls ≠ "java/lang/invoke/VarHandle" ∧ (parseMethodDescriptor yX5_list.desc).map (fun d => d.parameters.length) = some 2 := by decide +kernel
theorem hn_X5_list : yX5_list.cls ≠ "java/lang/invoke/MethodHandle" ∧ yX5_list.cls ≠ "java/lang/invoke/VarHandle" ∧ (parseMethodDescriptor yX5_list.desc).map (fun d => d.parameters.length) = some 2 := by decide +kernel
theorem in_X5_list_X5 : ∀ w ∈ u_ws RX5 TX5 21, w ∈ wsX5_list := fun _ h => List.mem_cons_of_mem _ (List.mem_append_right _ h)
abbrev rmX5_start : Room := { frames := 5, cells := 0, slots := 0, locals := 126 }
theorem hd_X5_start : yX5_start.cls = RX5 ∧ yX5_start.cls ≠ "java/lang/invoke/MethodHandle" ∧ yX5_start.cls ≠ "java/lang/invoke/VarHandle" ∧ (parseMethodDescriptor yX5_start.desc).map (fun d => d.parameters.length) = some 3 := by decide +kernel
theorem hn_X5_start : yX5_start.cls ≠ "java/lang/invoke/MethodHandle" ∧ yX5_start.cls ≠ "java/lang/invoke/VarHandle" ∧ (parseMethodDescriptor yX5_start.desc).map (fun d => d.parameters.length) = some 3 := by decide +kernel
theorem in_X5_start_X5 : ∀ w ∈ u_ws RX5 TX5 21, w ∈ wsX5_start := fun _ h => List.mem_cons_of_mem _ (List.mem_append_right _ h)
abbrev rmX5_team : Room := { frames := 5, cells := 0, slots := 0, locals := 126 }
theorem hd_X5_team : yX5_team.cls = RX5 ∧ yX5_team.cls ≠ "java/lang/invoke/MethodHandle" ∧ yX5_team.cls ≠ "java/lang/invoke/VarHandle" ∧ (parseMethodDescriptor yX5_team.desc).map (fun d => d.parameters.length) = some 2 := by decide +kernel
theorem hn_X5_team : yX5_team.cls ≠ "java/lang/invoke/MethodHandle" ∧ yX5_team.cls ≠ "java/lang/invoke/VarHandle" ∧ (parseMethodDescriptor yX5_team.desc).map (fun d => d.parameters.length) = some 2 := by decide +kernel
theorem in_X5_team_X5 : ∀ w ∈ u_ws RX5 TX5 21, w ∈ wsX5_team := fun _ h => List.mem_cons_of_mem _ (List.mem_append_right _ h)
abbrev rmX5_isClean : Room := { frames := 1, cells := 0, slots := 0, locals := 24 }
theorem hd_X5_isClean : yX5_isClean.cls = RX5 ∧ yX5_isClean.cls ≠ "java/lang/invoke/MethodHandle" ∧ yX5_isClean.cls ≠ "java/lang/invoke/VarHandle" ∧ (parseMethodDescriptor yX5_isClean.desc).map (fun d => d.parameters.length) = some 1 := by decide +kernel
theorem hn_X5_isClean : yX5_isClean.cls ≠ "java/lang/invoke/MethodHandle" ∧ yX5_isClean.cls ≠ "java/lang/invoke/VarHandle" ∧ (parseMethodDescriptor yX5_isClean.desc).map (fun d => d.parameters.length) = some 1 := by decide +kernel
theorem in_X5_isClean_X5 : ∀ w ∈ u_ws RX5 TX5 21, w ∈ wsX5_isClean := fun _ h => List.mem_cons_of_mem _ (List.mem_append_right _ h)
abbrev rmX5_longest : Room := { frames := 3, cells := 0, slots := 0, locals := 69 }
theorem hd_X5_longest : yX5_longest.cls = RX5 ∧ yX5_longest.cls ≠ "java/lang/invoke/MethodHandle" ∧ yX5_longest.cls ≠ "java/lang/invoke/VarHandle" ∧ (parseMethodDescriptor yX5_longest.desc).map (fun d => d.parameters.length) = some 0 := by decide +kernel
theorem hn_X5_longest : yX5_longest.cls ≠ "java/lang/invoke/MethodHandle" ∧ yX5_longest.cls ≠ "java/lang/invoke/VarHandle" ∧ (parseMethodDescriptor yX5_longest.desc).map (fun d => d.parameters.length) = some 0 := by decide +kernel
theorem in_X5_longest_X5 : ∀ w ∈ u_ws RX5 TX5 21, w ∈ wsX5_longest := fun _ h => List.mem_cons_of_mem _ (List.mem_append_right _ h)
abbrev rmX5_isGreater : Room := { frames := 0, cells := 0, slots := 0, locals := 0 }
theorem hd_X5_isGreater : yX5_isGreater.cls = RX5 ∧ yX5_isGreater.cls ≠ "java/lang/invoke/MethodHandle" ∧ yX5_isGreater.cls ≠ "java/lang/invoke/VarHandle" ∧ (parseMethodDescriptor yX5_isGreater.desc).map (fun d => d.parameters.length) = some 1 := by decide +kernel
theorem hn_X5_isGreater : yX5_isGreater.cls ≠ "java/lang/invoke/MethodHandle" ∧ yX5_isGreater.cls ≠ "java/lang/invoke/VarHandle" ∧ (parseMethodDescriptor yX5_isGreater.desc).map (fun d => d.parameters.length) = some 1 := by decide +kernel
theorem in_X5_isGreater_X5 : ∀ w ∈ u_ws RX5 TX5 21, w ∈ wsX5_isGreater := fun _ h => List.mem_cons_of_mem _ (List.mem_append_right _ h)
abbrev rmX5_record : Room := { frames := 4, cells := 0, slots := 0, locals := 92 }
theorem hd_X5_record : yX5_record.cls = RX5 ∧ yX5_record.cls ≠ "java/lang/invoke/MethodHandle" ∧ yX5_record.cls ≠ "java/lang/invoke/VarHandle" ∧ (parseMethodDescriptor yX5_record.desc).map (fun d => d.parameters.length) = some 1 := by decide +kernel
theorem hn_X5_record : yX5_record.cls ≠ "java/lang/invoke/MethodHandle" ∧ yX5_record.cls ≠ "java/lang/invoke/VarHandle" ∧ (parseMethodDescriptor yX5_record.desc).map (fun d => d.parameters.length) = some 1 := by decide +kernel
theorem in_X5_record_X5 : ∀ w ∈ u_ws RX5 TX5 21, w ∈ wsX5_record := fun _ h => List.mem_cons_of_mem _ (List.mem_append_right _ h)
abbrev rmX5_differ : Room := { frames := 5, cells := 0, slots := 0, locals := 126 }
theorem hd_X5_differ : yX5_differ.cls = RX5 ∧ yX5_differ.cls ≠ "java/lang/invoke/MethodHandle" ∧ yX5_differ.cls ≠ "java/lang/invoke/VarHandle" ∧ (parseMethodDescriptor yX5_differ.desc).map (fun d => d.parameters.length) = some 3 := by decide +kernel
theorem hn_X5_differ : yX5_differ.cls ≠ "java/lang/invoke/MethodHandle" ∧ yX5_differ.cls ≠ "java/lang/invoke/VarHandle" ∧ (parseMethodDescriptor yX5_differ.desc).map (fun d => d.parameters.length) = some 3 := by decide +kernel
theorem in_X5_differ_X5 : ∀ w ∈ u_ws RX5 TX5 21, w ∈ wsX5_differ := fun _ h => List.mem_cons_of_mem _ (List.mem_append_right _ h)
abbrev rmX5_close : Room := { frames := 5, cells := 0, slots := 0, locals := 126 }
theorem hd_X5_close : yX5_close.cls = RX5 ∧ yX5_close.cls ≠ "java/lang/invoke/MethodHandle" ∧ yX5_close.cls ≠ "java/lang/invoke/VarHandle" ∧ (parseMethodDescriptor yX5_close.desc).map (fun d => d.parameters.length) = some 0 := by decide +kernel
theorem hn_X5_close : yX5_close.cls ≠ "java/lang/invoke/MethodHandle" ∧ yX5_close.cls ≠ "java/lang/invoke/VarHandle" ∧ (parseMethodDescriptor yX5_close.desc).map (fun d => d.parameters.length) = some 0 := by decide +kernel
theorem in_X5_close_X5 : ∀ w ∈ u_ws RX5 TX5 21, w ∈ wsX5_close := fun _ h => List.mem_cons_of_mem _ (List.mem_append_right _ h)
abbrev rmX5_count : Room := { frames := 5, cells := 0, slots := 0, locals := 126 }
theorem hd_X5_count : yX5_count.cls = RX5 ∧ yX5_count.cls ≠ "java/lang/invoke/MethodHandle" ∧ yX5_count.cls ≠ "java/lang/invoke/VarHandle" ∧ (parseMethodDescriptor yX5_count.desc).map (fun d => d.parameters.length) = some 1 := by decide +kernel
theorem hn_X5_count : yX5_count.cls ≠ "java/lang/invoke/MethodHandle" ∧ yX5_count.cls ≠ "java/lang/invoke/VarHandle" ∧ (parseMethodDescriptor yX5_count.desc).map (fun d => d.parameters.length) = some 1 := by decide +kernel
theorem in_X5_count_X5 : ∀ w ∈ u_ws RX5 TX5 21, w ∈ wsX5_count := fun _ h => List.mem_cons_of_mem _ (List.mem_append_right _ h)
