set_option maxRecDepth 20000 in
theorem wJ6_bitCount_0f7a4_0 {p : Program} {l : Launch} {e : Env} {s : State} {m : MethodId} {args : Array Value} {below : List Frame} {meth : Method} {c : Code} {G : gG} {d : Nat} {Q : Option Value → gH → Prop} {h : gH} {lk sp : Nat} {cd : Option Nat} {a1 : Int32} (hR : h.2.2 = gRF lk sp cd) (hlk : lk = 30 ∨ lk = 67) (hsp : sp = 30 ∨ sp = 67)  (vc : Q (some (.int ((((((((a1 - (((a1 : Int32).toUInt32 >>> ((1 : Int32).toUInt32 &&& Int32.toUInt32 31)).toInt32 &&& 1431655765)) &&& 858993459) + ((((a1 - (((a1 : Int32).toUInt32 >>> ((1 : Int32).toUInt32 &&& Int32.toUInt32 31)).toInt32 &&& 1431655765)) : Int32).toUInt32 >>> ((2 : Int32).toUInt32 &&& Int32.toUInt32 31)).toInt32 &&& 858993459)) + (((((a1 - (((a1 : Int32).toUInt32 >>> ((1 : Int32).toUInt32 &&& Int32.toUInt32 31)).toInt32 &&& 1431655765)) &&& 858993459) + ((((a1 - (((a1 : Int32).toUInt32 >>> ((1 : Int32).toUInt32 &&& Int32.toUInt32 31)).toInt32 &&& 1431655765)) : Int32).toUInt32 >>> ((2 : Int32).toUInt32 &&& Int32.toUInt32 31)).toInt32 &&& 858993459)) : Int32).toUInt32 >>> ((4 : Int32).toUInt32 &&& Int32.toUInt32 31)).toInt32) &&& 252645135) + (((((((a1 - (((a1 : Int32).toUInt32 >>> ((1 : Int32).toUInt32 &&& Int32.toUInt32 31)).toInt32 &&& 1431655765)) &&& 858993459) + ((((a1 - (((a1 : Int32).toUInt32 >>> ((1 : Int32).toUInt32 &&& Int32.toUInt32 31)).toInt32 &&& 1431655765)) : Int32).toUInt32 >>> ((2 : Int32).toUInt32 &&& Int32.toUInt32 31)).toInt32 &&& 858993459)) + (((((a1 - (((a1 : Int32).toUInt32 >>> ((1 : Int32).toUInt32 &&& Int32.toUInt32 31)).toInt32 &&& 1431655765)) &&& 858993459) + ((((a1 - (((a1 : Int32).toUInt32 >>> ((1 : Int32).toUInt32 &&& Int32.toUInt32 31)).toInt32 &&& 1431655765)) : Int32).toUInt32 >>> ((2 : Int32).toUInt32 &&& Int32.toUInt32 31)).toInt32 &&& 858993459)) : Int32).toUInt32 >>> ((4 : Int32).toUInt32 &&& Int32.toUInt32 31)).toInt32) &&& 252645135) : Int32).toUInt32 >>> ((8 : Int32).toUInt32 &&& Int32.toUInt32 31)).toInt32) + ((((((((a1 - (((a1 : Int32).toUInt32 >>> ((1 : Int32).toUInt32 &&& Int32.toUInt32 31)).toInt32 &&& 1431655765)) &&& 858993459) + ((((a1 - (((a1 : Int32).toUInt32 >>> ((1 : Int32).toUInt32 &&& Int32.toUInt32 31)).toInt32 &&& 1431655765)) : Int32).toUInt32 >>> ((2 : Int32).toUInt32 &&& Int32.toUInt32 31)).toInt32 &&& 858993459)) + (((((a1 - (((a1 : Int32).toUInt32 >>> ((1 : Int32).toUInt32 &&& Int32.toUInt32 31)).toInt32 &&& 1431655765)) &&& 858993459) + ((((a1 - (((a1 : Int32).toUInt32 >>> ((1 : Int32).toUInt32 &&& Int32.toUInt32 31)).toInt32 &&& 1431655765)) : Int32).toUInt32 >>> ((2 : Int32).toUInt32 &&& Int32.toUInt32 31)).toInt32 &&& 858993459)) : Int32).toUInt32 >>> ((4 : Int32).toUInt32 &&& Int32.toUInt32 31)).toInt32) &&& 252645135) + (((((((a1 - (((a1 : Int32).toUInt32 >>> ((1 : Int32).toUInt32 &&& Int32.toUInt32 31)).toInt32 &&& 1431655765)) &&& 858993459) + ((((a1 - (((a1 : Int32).toUInt32 >>> ((1 : Int32).toUInt32 &&& Int32.toUInt32 31)).toInt32 &&& 1431655765)) : Int32).toUInt32 >>> ((2 : Int32).toUInt32 &&& Int32.toUInt32 31)).toInt32 &&& 858993459)) + (((((a1 - (((a1 : Int32).toUInt32 >>> ((1 : Int32).toUInt32 &&& Int32.toUInt32 31)).toInt32 &&& 1431655765)) &&& 858993459) + ((((a1 - (((a1 : Int32).toUInt32 >>> ((1 : Int32).toUInt32 &&& Int32.toUInt32 31)).toInt32 &&& 1431655765)) : Int32).toUInt32 >>> ((2 : Int32).toUInt32 &&& Int32.toUInt32 31)).toInt32 &&& 858993459)) : Int32).toUInt32 >>> ((4 : Int32).toUInt32 &&& Int32.toUInt32 31)).toInt32) &&& 252645135) : Int32).toUInt32 >>> ((8 : Int32).toUInt32 &&& Int32.toUInt32 31)).toInt32) : Int32).toUInt32 >>> ((16 : Int32).toUInt32 &&& Int32.toUInt32 31)).toInt32) &&& 63))) h) : gg p l e s m args below meth c G d MJ6_bitCount_0f7a4 Q 0 [some (.int a1)] [] h := by
  refine go_iload_n (x := a1) dJ6_bitCount_0f7a4_0 rfl ?_
  refine go_iload_n (x := a1) dJ6_bitCount_0f7a4_1 rfl ?_
  refine go_iconst (v := 1) dJ6_bitCount_0f7a4_2 rfl ?_
  refine go_iushr dJ6_bitCount_0f7a4_3 ?_
  refine go_ldcw (v := 1431655765) dJ6_bitCount_0f7a4_4 nJ6_265 ?_
  refine go_iand dJ6_bitCount_0f7a4_7 ?_
  refine go_isub dJ6_bitCount_0f7a4_8 ?_
  refine go_istore_n dJ6_bitCount_0f7a4_9 (Nat.le_of_ble_eq_true rfl) ?_
  show gg p l e s m args below meth c G d MJ6_bitCount_0f7a4 Q 10 [some (.int (a1 - (((a1 : Int32).toUInt32 >>> ((1 : Int32).toUInt32 &&& Int32.toUInt32 31)).toInt32 &&& 1431655765)))] [] h
  refine go_iload_n (x := (a1 - (((a1 : Int32).toUInt32 >>> ((1 : Int32).toUInt32 &&& Int32.toUInt32 31)).toInt32 &&& 1431655765))) dJ6_bitCount_0f7a4_10 rfl ?_
  refine go_ldcw (v := 858993459) dJ6_bitCount_0f7a4_11 nJ6_266 ?_
  refine go_iand dJ6_bitCount_0f7a4_14 ?_
  refine go_iload_n (x := (a1 - (((a1 : Int32).toUInt32 >>> ((1 : Int32).toUInt32 &&& Int32.toUInt32 31)).toInt32 &&& 1431655765))) dJ6_bitCount_0f7a4_15 rfl ?_
  refine go_iconst (v := 2) dJ6_bitCount_0f7a4_16 rfl ?_
  refine go_iushr dJ6_bitCount_0f7a4_17 ?_
  refine go_ldcw (v := 858993459) dJ6_bitCount_0f7a4_18 nJ6_266 ?_
  refine go_iand dJ6_bitCount_0f7a4_21 ?_
  refine go_iadd dJ6_bitCount_0f7a4_22 ?_
  refine go_istore_n dJ6_bitCount_0f7a4_23 (Nat.le_of_ble_eq_true rfl) ?_
  show gg p l e s m args below meth c G d MJ6_bitCount_0f7a4 Q 24 [some (.int (((a1 - (((a1 : Int32).toUInt32 >>> ((1 : Int32).toUInt32 &&& Int32.toUInt32 31)).toInt32 &&& 1431655765)) &&& 858993459) + ((((a1 - (((a1 : Int32).toUInt32 >>> ((1 : Int32).toUInt32 &&& Int32.toUInt32 31)).toInt32 &&& 1431655765)) : Int32).toUInt32 >>> ((2 : Int32).toUInt32 &&& Int32.toUInt32 31)).toInt32 &&& 858993459)))] [] h
  refine go_iload_n (x := (((a1 - (((a1 : Int32).toUInt32 >>> ((1 : Int32).toUInt32 &&& Int32.toUInt32 31)).toInt32 &&& 1431655765)) &&& 858993459) + ((((a1 - (((a1 : Int32).toUInt32 >>> ((1 : Int32).toUInt32 &&& Int32.toUInt32 31)).toInt32 &&& 1431655765)) : Int32).toUInt32 >>> ((2 : Int32).toUInt32 &&& Int32.toUInt32 31)).toInt32 &&& 858993459))) dJ6_bitCount_0f7a4_24 rfl ?_
  refine go_iload_n (x := (((a1 - (((a1 : Int32).toUInt32 >>> ((1 : Int32).toUInt32 &&& Int32.toUInt32 31)).toInt32 &&& 1431655765)) &&& 858993459) + ((((a1 - (((a1 : Int32).toUInt32 >>> ((1 : Int32).toUInt32 &&& Int32.toUInt32 31)).toInt32 &&& 1431655765)) : Int32).toUInt32 >>> ((2 : Int32).toUInt32 &&& Int32.toUInt32 31)).toInt32 &&& 858993459))) dJ6_bitCount_0f7a4_25 rfl ?_
  refine go_iconst (v := 4) dJ6_bitCount_0f7a4_26 rfl ?_
  refine go_iushr dJ6_bitCount_0f7a4_27 ?_
  refine go_iadd dJ6_bitCount_0f7a4_28 ?_
  refine go_ldcw (v := 252645135) dJ6_bitCount_0f7a4_29 nJ6_267 ?_
  refine go_iand dJ6_bitCount_0f7a4_32 ?_
  refine go_istore_n dJ6_bitCount_0f7a4_33 (Nat.le_of_ble_eq_true rfl) ?_
  show gg p l e s m args below meth c G d MJ6_bitCount_0f7a4 Q 34 [some (.int (((((a1 - (((a1 : Int32).toUInt32 >>> ((1 : Int32).toUInt32 &&& Int32.toUInt32 31)).toInt32 &&& 1431655765)) &&& 858993459) + ((((a1 - (((a1 : Int32).toUInt32 >>> ((1 : Int32).toUInt32 &&& Int32.toUInt32 31)).toInt32 &&& 1431655765)) : Int32).toUInt32 >>> ((2 : Int32).toUInt32 &&& Int32.toUInt32 31)).toInt32 &&& 858993459)) + (((((a1 - (((a1 : Int32).toUInt32 >>> ((1 : Int32).toUInt32 &&& Int32.toUInt32 31)).toInt32 &&& 1431655765)) &&& 858993459) + ((((a1 - (((a1 : Int32).toUInt32 >>> ((1 : Int32).toUInt32 &&& Int32.toUInt32 31)).toInt32 &&& 1431655765)) : Int32).toUInt32 >>> ((2 : Int32).toUInt32 &&& Int32.toUInt32 31)).toInt32 &&& 858993459)) : Int32).toUInt32 >>> ((4 : Int32).toUInt32 &&& Int32.toUInt32 31)).toInt32) &&& 252645135))] [] h
  refine go_iload_n (x := (((((a1 - (((a1 : Int32).toUInt32 >>> ((1 : Int32).toUInt32 &&& Int32.toUInt32 31)).toInt32 &&& 1431655765)) &&& 858993459) + ((((a1 - (((a1 : Int32).toUInt32 >>> ((1 : Int32).toUInt32 &&& Int32.toUInt32 31)).toInt32 &&& 1431655765)) : Int32).toUInt32 >>> ((2 : Int32).toUInt32 &&& Int32.toUInt32 31)).toInt32 &&& 858993459)) + (((((a1 - (((a1 : Int32).toUInt32 >>> ((1 : Int32).toUInt32 &&& Int32.toUInt32 31)).toInt32 &&& 1431655765)) &&& 858993459) + ((((a1 - (((a1 : Int32).toUInt32 >>> ((1 : Int32).toUInt32 &&& Int32.toUInt32 31)).toInt32 &&& 1431655765)) : Int32).toUInt32 >>> ((2 : Int32).toUInt32 &&& Int32.toUInt32 31)).toInt32 &&& 858993459)) : Int32).toUInt32 >>> ((4 : Int32).toUInt32 &&& Int32.toUInt32 31)).toInt32) &&& 252645135)) dJ6_bitCount_0f7a4_34 rfl ?_
  refine go_iload_n (x := (((((a1 - (((a1 : Int32).toUInt32 >>> ((1 : Int32).toUInt32 &&& Int32.toUInt32 31)).toInt32 &&& 1431655765)) &&& 858993459) + ((((a1 - (((a1 : Int32).toUInt32 >>> ((1 : Int32).toUInt32 &&& Int32.toUInt32 31)).toInt32 &&& 1431655765)) : Int32).toUInt32 >>> ((2 : Int32).toUInt32 &&& Int32.toUInt32 31)).toInt32 &&& 858993459)) + (((((a1 - (((a1 : Int32).toUInt32 >>> ((1 : Int32).toUInt32 &&& Int32.toUInt32 31)).toInt32 &&& 1431655765)) &&& 858993459) + ((((a1 - (((a1 : Int32).toUInt32 >>> ((1 : Int32).toUInt32 &&& Int32.toUInt32 31)).toInt32 &&& 1431655765)) : Int32).toUInt32 >>> ((2 : Int32).toUInt32 &&& Int32.toUInt32 31)).toInt32 &&& 858993459)) : Int32).toUInt32 >>> ((4 : Int32).toUInt32 &&& Int32.toUInt32 31)).toInt32) &&& 252645135)) dJ6_bitCount_0f7a4_35 rfl ?_
  refine go_bipush (v := 8) dJ6_bitCount_0f7a4_36 rfl ?_
  refine go_iushr dJ6_bitCount_0f7a4_38 ?_
  refine go_iadd dJ6_bitCount_0f7a4_39 ?_
  refine go_istore_n dJ6_bitCount_0f7a4_40 (Nat.le_of_ble_eq_true rfl) ?_
  show gg p l e s m args below meth c G d MJ6_bitCount_0f7a4 Q 41 [some (.int ((((((a1 - (((a1 : Int32).toUInt32 >>> ((1 : Int32).toUInt32 &&& Int32.toUInt32 31)).toInt32 &&& 1431655765)) &&& 858993459) + ((((a1 - (((a1 : Int32).toUInt32 >>> ((1 : Int32).toUInt32 &&& Int32.toUInt32 31)).toInt32 &&& 1431655765)) : Int32).toUInt32 >>> ((2 : Int32).toUInt32 &&& Int32.toUInt32 31)).toInt32 &&& 858993459)) + (((((a1 - (((a1 : Int32).toUInt32 >>> ((1 : Int32).toUInt32 &&& Int32.toUInt32 31)).toInt32 &&& 1431655765)) &&& 858993459) + ((((a1 - (((a1 : Int32).toUInt32 >>> ((1 : Int32).toUInt32 &&& Int32.toUInt32 31)).toInt32 &&& 1431655765)) : Int32).toUInt32 >>> ((2 : Int32).toUInt32 &&& Int32.toUInt32 31)).toInt32 &&& 858993459)) : Int32).toUInt32 >>> ((4 : Int32).toUInt32 &&& Int32.toUInt32 31)).toInt32) &&& 252645135) + (((((((a1 - (((a1 : Int32).toUInt32 >>> ((1 : Int32).toUInt32 &&& Int32.toUInt32 31)).toInt32 &&& 1431655765)) &&& 858993459) + ((((a1 - (((a1 : Int32).toUInt32 >>> ((1 : Int32).toUInt32 &&& Int32.toUInt32 31)).toInt32 &&& 1431655765)) : Int32).toUInt32 >>> ((2 : Int32).toUInt32 &&& Int32.toUInt32 31)).toInt32 &&& 858993459)) + (((((a1 - (((a1 : Int32).toUInt32 >>> ((1 : Int32).toUInt32 &&& Int32.toUInt32 31)).toInt32 &&& 1431655765)) &&& 858993459) + ((((a1 - (((a1 : Int32).toUInt32 >>> ((1 : Int32).toUInt32 &&& Int32.toUInt32 31)).toInt32 &&& 1431655765)) : Int32).toUInt32 >>> ((2 : Int32).toUInt32 &&& Int32.toUInt32 31)).toInt32 &&& 858993459)) : Int32).toUInt32 >>> ((4 : Int32).toUInt32 &&& Int32.toUInt32 31)).toInt32) &&& 252645135) : Int32).toUInt32 >>> ((8 : Int32).toUInt32 &&& Int32.toUInt32 31)).toInt32))] [] h
  refine go_iload_n (x := ((((((a1 - (((a1 : Int32).toUInt32 >>> ((1 : Int32).toUInt32 &&& Int32.toUInt32 31)).toInt32 &&& 1431655765)) &&& 858993459) + ((((a1 - (((a1 : Int32).toUInt32 >>> ((1 : Int32).toUInt32 &&& Int32.toUInt32 31)).toInt32 &&& 1431655765)) : Int32).toUInt32 >>> ((2 : Int32).toUInt32 &&& Int32.toUInt32 31)).toInt32 &&& 858993459)) + (((((a1 - (((a1 : Int32).toUInt32 >>> ((1 : Int32).toUInt32 &&& Int32.toUInt32 31)).toInt32 &&& 1431655765)) &&& 858993459) + ((((a1 - (((a1 : Int32).toUInt32 >>> ((1 : Int32).toUInt32 &&& Int32.toUInt32 31)).toInt32 &&& 1431655765)) : Int32).toUInt32 >>> ((2 : Int32).toUInt32 &&& Int32.toUInt32 31)).toInt32 &&& 858993459)) : Int32).toUInt32 >>> ((4 : Int32).toUInt32 &&& Int32.toUInt32 31)).toInt32) &&& 252645135) + (((((((a1 - (((a1 : Int32).toUInt32 >>> ((1 : Int32).toUInt32 &&& Int32.toUInt32 31)).toInt32 &&& 1431655765)) &&& 858993459) + ((((a1 - (((a1 : Int32).toUInt32 >>> ((1 : Int32).toUInt32 &&& Int32.toUInt32 31)).toInt32 &&& 1431655765)) : Int32).toUInt32 >>> ((2 : Int32).toUInt32 &&& Int32.toUInt32 31)).toInt32 &&& 858993459)) + (((((a1 - (((a1 : Int32).toUInt32 >>> ((1 : Int32).toUInt32 &&& Int32.toUInt32 31)).toInt32 &&& 1431655765)) &&& 858993459) + ((((a1 - (((a1 : Int32).toUInt32 >>> ((1 : Int32).toUInt32 &&& Int32.toUInt32 31)).toInt32 &&& 1431655765)) : Int32).toUInt32 >>> ((2 : Int32).toUInt32 &&& Int32.toUInt32 31)).toInt32 &&& 858993459)) : Int32).toUInt32 >>> ((4 : Int32).toUInt32 &&& Int32.toUInt32 31)).toInt32) &&& 252645135) : Int32).toUInt32 >>> ((8 : Int32).toUInt32 &&& Int32.toUInt32 31)).toInt32)) dJ6_bitCount_0f7a4_41 rfl ?_
  refine go_iload_n (x := ((((((a1 - (((a1 : Int32).toUInt32 >>> ((1 : Int32).toUInt32 &&& Int32.toUInt32 31)).toInt32 &&& 1431655765)) &&& 858993459) + ((((a1 - (((a1 : Int32).toUInt32 >>> ((1 : Int32).toUInt32 &&& Int32.toUInt32 31)).toInt32 &&& 1431655765)) : Int32).toUInt32 >>> ((2 : Int32).toUInt32 &&& Int32.toUInt32 31)).toInt32 &&& 858993459)) + (((((a1 - (((a1 : Int32).toUInt32 >>> ((1 : Int32).toUInt32 &&& Int32.toUInt32 31)).toInt32 &&& 1431655765)) &&& 858993459) + ((((a1 - (((a1 : Int32).toUInt32 >>> ((1 : Int32).toUInt32 &&& Int32.toUInt32 31)).toInt32 &&& 1431655765)) : Int32).toUInt32 >>> ((2 : Int32).toUInt32 &&& Int32.toUInt32 31)).toInt32 &&& 858993459)) : Int32).toUInt32 >>> ((4 : Int32).toUInt32 &&& Int32.toUInt32 31)).toInt32) &&& 252645135) + (((((((a1 - (((a1 : Int32).toUInt32 >>> ((1 : Int32).toUInt32 &&& Int32.toUInt32 31)).toInt32 &&& 1431655765)) &&& 858993459) + ((((a1 - (((a1 : Int32).toUInt32 >>> ((1 : Int32).toUInt32 &&& Int32.toUInt32 31)).toInt32 &&& 1431655765)) : Int32).toUInt32 >>> ((2 : Int32).toUInt32 &&& Int32.toUInt32 31)).toInt32 &&& 858993459)) + (((((a1 - (((a1 : Int32).toUInt32 >>> ((1 : Int32).toUInt32 &&& Int32.toUInt32 31)).toInt32 &&& 1431655765)) &&& 858993459) + ((((a1 - (((a1 : Int32).toUInt32 >>> ((1 : Int32).toUInt32 &&& Int32.toUInt32 31)).toInt32 &&& 1431655765)) : Int32).toUInt32 >>> ((2 : Int32).toUInt32 &&& Int32.toUInt32 31)).toInt32 &&& 858993459)) : Int32).toUInt32 >>> ((4 : Int32).toUInt32 &&& Int32.toUInt32 31)).toInt32) &&& 252645135) : Int32).toUInt32 >>> ((8 : Int32).toUInt32 &&& Int32.toUInt32 31)).toInt32)) dJ6_bitCount_0f7a4_42 rfl ?_
  refine go_bipush (v := 16) dJ6_bitCount_0f7a4_43 rfl ?_
  refine go_iushr dJ6_bitCount_0f7a4_45 ?_
  refine go_iadd dJ6_bitCount_0f7a4_46 ?_
  refine go_istore_n dJ6_bitCount_0f7a4_47 (Nat.le_of_ble_eq_true rfl) ?_
  show gg p l e s m args below meth c G d MJ6_bitCount_0f7a4 Q 48 [some (.int (((((((a1 - (((a1 : Int32).toUInt32 >>> ((1 : Int32).toUInt32 &&& Int32.toUInt32 31)).toInt32 &&& 1431655765)) &&& 858993459) + ((((a1 - (((a1 : Int32).toUInt32 >>> ((1 : Int32).toUInt32 &&& Int32.toUInt32 31)).toInt32 &&& 1431655765)) : Int32).toUInt32 >>> ((2 : Int32).toUInt32 &&& Int32.toUInt32 31)).toInt32 &&& 858993459)) + (((((a1 - (((a1 : Int32).toUInt32 >>> ((1 : Int32).toUInt32 &&& Int32.toUInt32 31)).toInt32 &&& 1431655765)) &&& 858993459) + ((((a1 - (((a1 : Int32).toUInt32 >>> ((1 : Int32).toUInt32 &&& Int32.toUInt32 31)).toInt32 &&& 1431655765)) : Int32).toUInt32 >>> ((2 : Int32).toUInt32 &&& Int32.toUInt32 31)).toInt32 &&& 858993459)) : Int32).toUInt32 >>> ((4 : Int32).toUInt32 &&& Int32.toUInt32 31)).toInt32) &&& 252645135) + (((((((a1 - (((a1 : Int32).toUInt32 >>> ((1 : Int32).toUInt32 &&& Int32.toUInt32 31)).toInt32 &&& 1431655765)) &&& 858993459) + ((((a1 - (((a1 : Int32).toUInt32 >>> ((1 : Int32).toUInt32 &&& Int32.toUInt32 31)).toInt32 &&& 1431655765)) : Int32).toUInt32 >>> ((2 : Int32).toUInt32 &&& Int32.toUInt32 31)).toInt32 &&& 858993459)) + (((((a1 - (((a1 : Int32).toUInt32 >>> ((1 : Int32).toUInt32 &&& Int32.toUInt32 31)).toInt32 &&& 1431655765)) &&& 858993459) + ((((a1 - (((a1 : Int32).toUInt32 >>> ((1 : Int32).toUInt32 &&& Int32.toUInt32 31)).toInt32 &&& 1431655765)) : Int32).toUInt32 >>> ((2 : Int32).toUInt32 &&& Int32.toUInt32 31)).toInt32 &&& 858993459)) : Int32).toUInt32 >>> ((4 : Int32).toUInt32 &&& Int32.toUInt32 31)).toInt32) &&& 252645135) : Int32).toUInt32 >>> ((8 : Int32).toUInt32 &&& Int32.toUInt32 31)).toInt32) + ((((((((a1 - (((a1 : Int32).toUInt32 >>> ((1 : Int32).toUInt32 &&& Int32.toUInt32 31)).toInt32 &&& 1431655765)) &&& 858993459) + ((((a1 - (((a1 : Int32).toUInt32 >>> ((1 : Int32).toUInt32 &&& Int32.toUInt32 31)).toInt32 &&& 1431655765)) : Int32).toUInt32 >>> ((2 : Int32).toUInt32 &&& Int32.toUInt32 31)).toInt32 &&& 858993459)) + (((((a1 - (((a1 : Int32).toUInt32 >>> ((1 : Int32).toUInt32 &&& Int32.toUInt32 31)).toInt32 &&& 1431655765)) &&& 858993459) + ((((a1 - (((a1 : Int32).toUInt32 >>> ((1 : Int32).toUInt32 &&& Int32.toUInt32 31)).toInt32 &&& 1431655765)) : Int32).toUInt32 >>> ((2 : Int32).toUInt32 &&& Int32.toUInt32 31)).toInt32 &&& 858993459)) : Int32).toUInt32 >>> ((4 : Int32).toUInt32 &&& Int32.toUInt32 31)).toInt32) &&& 252645135) + (((((((a1 - (((a1 : Int32).toUInt32 >>> ((1 : Int32).toUInt32 &&& Int32.toUInt32 31)).toInt32 &&& 1431655765)) &&& 858993459) + ((((a1 - (((a1 : Int32).toUInt32 >>> ((1 : Int32).toUInt32 &&& Int32.toUInt32 31)).toInt32 &&& 1431655765)) : Int32).toUInt32 >>> ((2 : Int32).toUInt32 &&& Int32.toUInt32 31)).toInt32 &&& 858993459)) + (((((a1 - (((a1 : Int32).toUInt32 >>> ((1 : Int32).toUInt32 &&& Int32.toUInt32 31)).toInt32 &&& 1431655765)) &&& 858993459) + ((((a1 - (((a1 : Int32).toUInt32 >>> ((1 : Int32).toUInt32 &&& Int32.toUInt32 31)).toInt32 &&& 1431655765)) : Int32).toUInt32 >>> ((2 : Int32).toUInt32 &&& Int32.toUInt32 31)).toInt32 &&& 858993459)) : Int32).toUInt32 >>> ((4 : Int32).toUInt32 &&& Int32.toUInt32 31)).toInt32) &&& 252645135) : Int32).toUInt32 >>> ((8 : Int32).toUInt32 &&& Int32.toUInt32 31)).toInt32) : Int32).toUInt32 >>> ((16 : Int32).toUInt32 &&& Int32.toUInt32 31)).toInt32))] [] h
  refine go_iload_n (x := (((((((a1 - (((a1 : Int32).toUInt32 >>> ((1 : Int32).toUInt32 &&& Int32.toUInt32 31)).toInt32 &&& 1431655765)) &&& 858993459) + ((((a1 - (((a1 : Int32).toUInt32 >>> ((1 : Int32).toUInt32 &&& Int32.toUInt32 31)).toInt32 &&& 1431655765)) : Int32).toUInt32 >>> ((2 : Int32).toUInt32 &&& Int32.toUInt32 31)).toInt32 &&& 858993459)) + (((((a1 - (((a1 : Int32).toUInt32 >>> ((1 : Int32).toUInt32 &&& Int32.toUInt32 31)).toInt32 &&& 1431655765)) &&& 858993459) + ((((a1 - (((a1 : Int32).toUInt32 >>> ((1 : Int32).toUInt32 &&& Int32.toUInt32 31)).toInt32 &&& 1431655765)) : Int32).toUInt32 >>> ((2 : Int32).toUInt32 &&& Int32.toUInt32 31)).toInt32 &&& 858993459)) : Int32).toUInt32 >>> ((4 : Int32).toUInt32 &&& Int32.toUInt32 31)).toInt32) &&& 252645135) + (((((((a1 - (((a1 : Int32).toUInt32 >>> ((1 : Int32).toUInt32 &&& Int32.toUInt32 31)).toInt32 &&& 1431655765)) &&& 858993459) + ((((a1 - (((a1 : Int32).toUInt32 >>> ((1 : Int32).toUInt32 &&& Int32.toUInt32 31)).toInt32 &&& 1431655765)) : Int32).toUInt32 >>> ((2 : Int32).toUInt32 &&& Int32.toUInt32 31)).toInt32 &&& 858993459)) + (((((a1 - (((a1 : Int32).toUInt32 >>> ((1 : Int32).toUInt32 &&& Int32.toUInt32 31)).toInt32 &&& 1431655765)) &&& 858993459) + ((((a1 - (((a1 : Int32).toUInt32 >>> ((1 : Int32).toUInt32 &&& Int32.toUInt32 31)).toInt32 &&& 1431655765)) : Int32).toUInt32 >>> ((2 : Int32).toUInt32 &&& Int32.toUInt32 31)).toInt32 &&& 858993459)) : Int32).toUInt32 >>> ((4 : Int32).toUInt32 &&& Int32.toUInt32 31)).toInt32) &&& 252645135) : Int32).toUInt32 >>> ((8 : Int32).toUInt32 &&& Int32.toUInt32 31)).toInt32) + ((((((((a1 - (((a1 : Int32).toUInt32 >>> ((1 : Int32).toUInt32 &&& Int32.toUInt32 31)).toInt32 &&& 1431655765)) &&& 858993459) + ((((a1 - (((a1 : Int32).toUInt32 >>> ((1 : Int32).toUInt32 &&& Int32.toUInt32 31)).toInt32 &&& 1431655765)) : Int32).toUInt32 >>> ((2 : Int32).toUInt32 &&& Int32.toUInt32 31)).toInt32 &&& 858993459)) + (((((a1 - (((a1 : Int32).toUInt32 >>> ((1 : Int32).toUInt32 &&& Int32.toUInt32 31)).toInt32 &&& 1431655765)) &&& 858993459) + ((((a1 - (((a1 : Int32).toUInt32 >>> ((1 : Int32).toUInt32 &&& Int32.toUInt32 31)).toInt32 &&& 1431655765)) : Int32).toUInt32 >>> ((2 : Int32).toUInt32 &&& Int32.toUInt32 31)).toInt32 &&& 858993459)) : Int32).toUInt32 >>> ((4 : Int32).toUInt32 &&& Int32.toUInt32 31)).toInt32) &&& 252645135) + (((((((a1 - (((a1 : Int32).toUInt32 >>> ((1 : Int32).toUInt32 &&& Int32.toUInt32 31)).toInt32 &&& 1431655765)) &&& 858993459) + ((((a1 - (((a1 : Int32).toUInt32 >>> ((1 : Int32).toUInt32 &&& Int32.toUInt32 31)).toInt32 &&& 1431655765)) : Int32).toUInt32 >>> ((2 : Int32).toUInt32 &&& Int32.toUInt32 31)).toInt32 &&& 858993459)) + (((((a1 - (((a1 : Int32).toUInt32 >>> ((1 : Int32).toUInt32 &&& Int32.toUInt32 31)).toInt32 &&& 1431655765)) &&& 858993459) + ((((a1 - (((a1 : Int32).toUInt32 >>> ((1 : Int32).toUInt32 &&& Int32.toUInt32 31)).toInt32 &&& 1431655765)) : Int32).toUInt32 >>> ((2 : Int32).toUInt32 &&& Int32.toUInt32 31)).toInt32 &&& 858993459)) : Int32).toUInt32 >>> ((4 : Int32).toUInt32 &&& Int32.toUInt32 31)).toInt32) &&& 252645135) : Int32).toUInt32 >>> ((8 : Int32).toUInt32 &&& Int32.toUInt32 31)).toInt32) : Int32).toUInt32 >>> ((16 : Int32).toUInt32 &&& Int32.toUInt32 31)).toInt32)) dJ6_bitCount_0f7a4_48 rfl ?_
  refine go_bipush (v := 63) dJ6_bitCount_0f7a4_49 rfl ?_
  refine go_iand dJ6_bitCount_0f7a4_51 ?_
  exact go_iret dJ6_bitCount_0f7a4_52 rfl vc rfl (Nat.le_refl _) (Nat.le_refl _)
set_option maxRecDepth 20000 in
theorem wJ7_fill_53178_0 {p : Program} {l : Launch} {e : Env} {s : State} {m : MethodId} {args : Array Value} {below : List Frame} {meth : Method} {c : Code} {G : gG} {d : Nat} {Q : Option Value → gH → Prop} {h : gH} {lk sp : Nat} {cd : Option Nat} {w1 n1 : Nat} {a2 : Int32} (hR : h.2.2 = gRF lk sp cd) (hlk : lk = 30 ∨ lk = 67) (hsp : sp = 30 ∨ sp = 67) (hw1 : gSH[w1]? = some (20, n1)) (vc : gg p l e s m args below meth c G d MJ7_fill_53178 Q 5 [some (.ref w1), some (.int a2), some (.int 0), some (.int (Int32.ofNat n1))] [] h) : gg p l e s m args below meth c G d MJ7_fill_53178 Q 0 [some (.ref w1), some (.int a2), none, none] [] h := by
  refine go_iconst (v := 0) dJ7_fill_53178_0 rfl ?_
  refine go_istore_n dJ7_fill_53178_1 (Nat.le_of_ble_eq_true rfl) ?_
  show gg p l e s m args below meth c G d MJ7_fill_53178 Q 2 [some (.ref w1), some (.int a2), some (.int 0), none] [] h
  refine go_aload_n (x := w1) dJ7_fill_53178_2 rfl ?_
  refine go_alen (v := (Int32.ofNat n1)) dJ7_fill_53178_3 hw1 (by decide) rfl ?_
  refine go_istore_n dJ7_fill_53178_4 (Nat.le_of_ble_eq_true rfl) ?_
  show gg p l e s m args below meth c G d MJ7_fill_53178 Q 5 [some (.ref w1), some (.int a2), some (.int 0), some (.int (Int32.ofNat n1))] [] h
  exact vc
set_option maxRecDepth 20000 in
theorem wJ7_fill_53178_5 {p : Program} {l : Launch} {e : Env} {s : State} {m : MethodId} {args : Array Value} {below : List Frame} {meth : Method} {c : Code} {G : gG} {d : Nat} {Q : Option Value → gH → Prop} {h : gH} {lk sp : Nat} {cd : Option Nat} {w1 n1 : Nat} {x1 : Int32} {x2 : Int32} {x3 : Int32} (hR : h.2.2 = gRF lk sp cd) (hlk : lk = 30 ∨ lk = 67) (hsp : sp = 30 ∨ sp = 67) (hw1 : gSH[w1]? = some (20, n1)) (vc : ((x3 ≤ x2 → Q none h) ∧ (¬ x3 ≤ x2 → (vp_in x2 n1 ∧ gg p l e s m args below meth c G d MJ7_fill_53178 Q 5 [some (.ref w1), some (.int x1), some (.int (x2 + 1)), some (.int x3)] [] (sI h w1 x2.toNatClampNeg x1))))) : gg p l e s m args below meth c G d MJ7_fill_53178 Q 5 [some (.ref w1), some (.int x1), some (.int x2), some (.int x3)] [] h := by
  refine go_iload_n (x := x2) dJ7_fill_53178_5 rfl ?_
  refine go_iload_n (x := x3) dJ7_fill_53178_6 rfl ?_
  refine go_icmp_ge 20 dJ7_fill_53178_7 rfl (fun q => ?_) (fun q => ?_)
  · replace vc := vc.1 q
    exact go_vret dJ7_fill_53178_20 rfl vc rfl (Nat.le_refl _) (Nat.le_refl _)
  · replace vc := vc.2 q
    refine go_aload_n (x := w1) dJ7_fill_53178_10 rfl ?_
    refine go_iload_n (x := x2) dJ7_fill_53178_11 rfl ?_
    refine go_iload_n (x := x1) dJ7_fill_53178_12 rfl ?_
    refine go_iast dJ7_fill_53178_13 hw1 vc.1 ?_
    have vc := vc.2
    show gg p l e s m args below meth c G d MJ7_fill_53178 Q 14 [some (.ref w1), some (.int x1), some (.int x2), some (.int x3)] [] (sI h w1 x2.toNatClampNeg x1)
    refine go_iinc (x := x2) dJ7_fill_53178_14 rfl ?_
    show gg p l e s m args below meth c G d MJ7_fill_53178 Q 17 [some (.ref w1), some (.int x1), some (.int (x2 + 1)), some (.int x3)] [] (sI h w1 x2.toNatClampNeg x1)
    refine go_goto 5 dJ7_fill_53178_17 rfl ?_
    exact vc
set_option maxRecDepth 20000 in
theorem wJ9_floorDiv_7cf53_0 {p : Program} {l : Launch} {e : Env} {s : State} {m : MethodId} {args : Array Value} {below : List Frame} {meth : Method} {c : Code} {G : gG} {d : Nat} {Q : Option Value → gH → Prop} {h : gH} {lk sp : Nat} {cd : Option Nat} {a1 : Int32} {a2 : Int32} (hR : h.2.2 = gRF lk sp cd) (hlk : lk = 30 ∨ lk = 67) (hsp : sp = 30 ∨ sp = 67)  (vc : (¬ a2 = 0 ∧ ((0 ≤ (a1 ^^^ a2) → Q (some (.int (a1 / a2))) h) ∧ (¬ 0 ≤ (a1 ^^^ a2) → ((((a1 / a2) * a2) = a1 → Q (some (.int (a1 / a2))) h) ∧ (¬ ((a1 / a2) * a2) = a1 → Q (some (.int ((a1 / a2) - 1))) h)))))) : gg p l e s m args below meth c G d MJ9_floorDiv_7cf53 Q 0 [some (.int a1), some (.int a2), none] [] h := by
  refine go_iload_n (x := a1) dJ9_floorDiv_7cf53_0 rfl ?_
  refine go_iload_n (x := a2) dJ9_floorDiv_7cf53_1 rfl ?_
  refine go_idiv dJ9_floorDiv_7cf53_2 vc.1 ?_
  have vc := vc.2
  refine go_istore_n dJ9_floorDiv_7cf53_3 (Nat.le_of_ble_eq_true rfl) ?_
  show gg p l e s m args below meth c G d MJ9_floorDiv_7cf53 Q 4 [some (.int a1), some (.int a2), some (.int (a1 / a2))] [] h
  refine go_iload_n (x := a1) dJ9_floorDiv_7cf53_4 rfl ?_
  refine go_iload_n (x := a2) dJ9_floorDiv_7cf53_5 rfl ?_
  refine go_ixor dJ9_floorDiv_7cf53_6 ?_
  refine go_if_ge 21 dJ9_floorDiv_7cf53_7 rfl (fun q => ?_) (fun q => ?_)
  · replace vc := vc.1 q
    refine go_iload_n (x := (a1 / a2)) dJ9_floorDiv_7cf53_21 rfl ?_
    exact go_iret dJ9_floorDiv_7cf53_22 rfl vc rfl (Nat.le_refl _) (Nat.le_refl _)
  · replace vc := vc.2 q
    refine go_iload_n (x := (a1 / a2)) dJ9_floorDiv_7cf53_10 rfl ?_
    refine go_iload_n (x := a2) dJ9_floorDiv_7cf53_11 rfl ?_
    refine go_imul dJ9_floorDiv_7cf53_12 ?_
    refine go_iload_n (x := a1) dJ9_floorDiv_7cf53_13 rfl ?_
    refine go_icmp_eq 21 dJ9_floorDiv_7cf53_14 rfl (fun q => ?_) (fun q => ?_)
    · replace vc := vc.1 q
      refine go_iload_n (x := (a1 / a2)) dJ9_floorDiv_7cf53_21 rfl ?_
      exact go_iret dJ9_floorDiv_7cf53_22 rfl vc rfl (Nat.le_refl _) (Nat.le_refl _)
    · replace vc := vc.2 q
      refine go_iload_n (x := (a1 / a2)) dJ9_floorDiv_7cf53_17 rfl ?_
      refine go_iconst (v := 1) dJ9_floorDiv_7cf53_18 rfl ?_
      refine go_isub dJ9_floorDiv_7cf53_19 ?_
      exact go_iret dJ9_floorDiv_7cf53_20 rfl vc rfl (Nat.le_refl _) (Nat.le_refl _)
set_option maxRecDepth 20000 in
theorem wJ9_abs_0f7a4_0 {p : Program} {l : Launch} {e : Env} {s : State} {m : MethodId} {args : Array Value} {below : List Frame} {meth : Method} {c : Code} {G : gG} {d : Nat} {Q : Option Value → gH → Prop} {h : gH} {lk sp : Nat} {cd : Option Nat} {a1 : Int32} (hR : h.2.2 = gRF lk sp cd) (hlk : lk = 30 ∨ lk = 67) (hsp : sp = 30 ∨ sp = 67)  (vc : ((0 ≤ a1 → Q (some (.int a1)) h) ∧ (¬ 0 ≤ a1 → Q (some (.int (-a1))) h))) : gg p l e s m args below meth c G d MJ9_abs_0f7a4 Q 0 [some (.int a1)] [] h := by
  refine go_iload_n (x := a1) dJ9_abs_0f7a4_0 rfl ?_
  refine go_if_ge 9 dJ9_abs_0f7a4_1 rfl (fun q => ?_) (fun q => ?_)
  · replace vc := vc.1 q
    refine go_iload_n (x := a1) dJ9_abs_0f7a4_9 rfl ?_
    exact go_iret dJ9_abs_0f7a4_10 rfl vc rfl (Nat.le_refl _) (Nat.le_refl _)
  · replace vc := vc.2 q
    refine go_iload_n (x := a1) dJ9_abs_0f7a4_4 rfl ?_
    refine go_ineg dJ9_abs_0f7a4_5 ?_
    refine go_goto 10 dJ9_abs_0f7a4_6 rfl ?_
    exact go_iret dJ9_abs_0f7a4_10 rfl vc rfl (Nat.le_refl _) (Nat.le_refl _)
set_option maxRecDepth 20000 in
theorem wJ9_max_7cf53_0 {p : Program} {l : Launch} {e : Env} {s : State} {m : MethodId} {args : Array Value} {below : List Frame} {meth : Method} {c : Code} {G : gG} {d : Nat} {Q : Option Value → gH → Prop} {h : gH} {lk sp : Nat} {cd : Option Nat} {a1 : Int32} {a2 : Int32} (hR : h.2.2 = gRF lk sp cd) (hlk : lk = 30 ∨ lk = 67) (hsp : sp = 30 ∨ sp = 67)  (vc : ((a1 < a2 → Q (some (.int a2)) h) ∧ (¬ a1 < a2 → Q (some (.int a1)) h))) : gg p l e s m args below meth c G d MJ9_max_7cf53 Q 0 [some (.int a1), some (.int a2)] [] h := by
  refine go_iload_n (x := a1) dJ9_max_7cf53_0 rfl ?_
  refine go_iload_n (x := a2) dJ9_max_7cf53_1 rfl ?_
  refine go_icmp_lt 9 dJ9_max_7cf53_2 rfl (fun q => ?_) (fun q => ?_)
  · replace vc := vc.1 q
    refine go_iload_n (x := a2) dJ9_max_7cf53_9 rfl ?_
    exact go_iret dJ9_max_7cf53_10 rfl vc rfl (Nat.le_refl _) (Nat.le_refl _)
  · replace vc := vc.2 q
    refine go_iload_n (x := a1) dJ9_max_7cf53_5 rfl ?_
    refine go_goto 10 dJ9_max_7cf53_6 rfl ?_
    exact go_iret dJ9_max_7cf53_10 rfl vc rfl (Nat.le_refl _) (Nat.le_refl _)
set_option maxRecDepth 20000 in
theorem wJ9_max_f86c9_0 {p : Program} {l : Launch} {e : Env} {s : State} {m : MethodId} {args : Array Value} {below : List Frame} {meth : Method} {c : Code} {G : gG} {d : Nat} {Q : Option Value → gH → Prop} {h : gH} {lk sp : Nat} {cd : Option Nat} {a1 : Int64} {a2 : Int64} (hR : h.2.2 = gRF lk sp cd) (hlk : lk = 30 ∨ lk = 67) (hsp : sp = 30 ∨ sp = 67)  (vc : (((lg_cmp a1 a2) < 0 → Q (some (.long a2)) h) ∧ (¬ (lg_cmp a1 a2) < 0 → Q (some (.long a1)) h))) : gg p l e s m args below meth c G d MJ9_max_f86c9 Q 0 [some (.long a1), none, some (.long a2), none] [] h := by
  refine go_lload_n (x := a1) dJ9_max_f86c9_0 rfl ?_
  refine go_lload_n (x := a2) dJ9_max_f86c9_1 rfl ?_
  refine go_lcmp dJ9_max_f86c9_2 ?_
  refine go_if_lt 10 dJ9_max_f86c9_3 rfl (fun q => ?_) (fun q => ?_)
  · replace vc := vc.1 q
    refine go_lload_n (x := a2) dJ9_max_f86c9_10 rfl ?_
    exact go_lret dJ9_max_f86c9_11 rfl vc rfl (Nat.le_refl _) (Nat.le_refl _)
  · replace vc := vc.2 q
    refine go_lload_n (x := a1) dJ9_max_f86c9_6 rfl ?_
    refine go_goto 11 dJ9_max_f86c9_7 rfl ?_
    exact go_lret dJ9_max_f86c9_11 rfl vc rfl (Nat.le_refl _) (Nat.le_refl _)
set_option maxRecDepth 20000 in
theorem wJ9_min_7cf53_0 {p : Program} {l : Launch} {e : Env} {s : State} {m : MethodId} {args : Array Value} {below : List Frame} {meth : Method} {c : Code} {G : gG} {d : Nat} {Q : Option Value → gH → Prop} {h : gH} {lk sp : Nat} {cd : Option Nat} {a1 : Int32} {a2 : Int32} (hR : h.2.2 = gRF lk sp cd) (hlk : lk = 30 ∨ lk = 67) (hsp : sp = 30 ∨ sp = 67)  (vc : ((a2 < a1 → Q (some (.int a2)) h) ∧ (¬ a2 < a1 → Q (some (.int a1)) h))) : gg p l e s m args below meth c G d MJ9_min_7cf53 Q 0 [some (.int a1), some (.int a2)] [] h := by
  refine go_iload_n (x := a1) dJ9_min_7cf53_0 rfl ?_
  refine go_iload_n (x := a2) dJ9_min_7cf53_1 rfl ?_
  refine go_icmp_gt 9 dJ9_min_7cf53_2 rfl (fun q => ?_) (fun q => ?_)
  · replace vc := vc.1 q
    refine go_iload_n (x := a2) dJ9_min_7cf53_9 rfl ?_
    exact go_iret dJ9_min_7cf53_10 rfl vc rfl (Nat.le_refl _) (Nat.le_refl _)
  · replace vc := vc.2 q
    refine go_iload_n (x := a1) dJ9_min_7cf53_5 rfl ?_
    refine go_goto 10 dJ9_min_7cf53_6 rfl ?_
    exact go_iret dJ9_min_7cf53_10 rfl vc rfl (Nat.le_refl _) (Nat.le_refl _)
set_option maxRecDepth 20000 in
theorem wJ9_min_f86c9_0 {p : Program} {l : Launch} {e : Env} {s : State} {m : MethodId} {args : Array Value} {below : List Frame} {meth : Method} {c : Code} {G : gG} {d : Nat} {Q : Option Value → gH → Prop} {h : gH} {lk sp : Nat} {cd : Option Nat} {a1 : Int64} {a2 : Int64} (hR : h.2.2 = gRF lk sp cd) (hlk : lk = 30 ∨ lk = 67) (hsp : sp = 30 ∨ sp = 67)  (vc : ((0 < (lg_cmp a1 a2) → Q (some (.long a2)) h) ∧ (¬ 0 < (lg_cmp a1 a2) → Q (some (.long a1)) h))) : gg p l e s m args below meth c G d MJ9_min_f86c9 Q 0 [some (.long a1), none, some (.long a2), none] [] h := by
  refine go_lload_n (x := a1) dJ9_min_f86c9_0 rfl ?_
  refine go_lload_n (x := a2) dJ9_min_f86c9_1 rfl ?_
  refine go_lcmp dJ9_min_f86c9_2 ?_
  refine go_if_gt 10 dJ9_min_f86c9_3 rfl (fun q => ?_) (fun q => ?_)
  · replace vc := vc.1 q
    refine go_lload_n (x := a2) dJ9_min_f86c9_10 rfl ?_
    exact go_lret dJ9_min_f86c9_11 rfl vc rfl (Nat.le_refl _) (Nat.le_refl _)
  · replace vc := vc.2 q
    refine go_lload_n (x := a1) dJ9_min_f86c9_6 rfl ?_
    refine go_goto 11 dJ9_min_f86c9_7 rfl ?_
    exact go_lret dJ9_min_f86c9_11 rfl vc rfl (Nat.le_refl _) (Nat.le_refl _)
set_option maxRecDepth 20000 in
theorem wX0_clear_0 {p : Program} {l : Launch} {e : Env} {s : State} {m : MethodId} {args : Array Value} {below : List Frame} {meth : Method} {c : Code} {G : gG} {d : Nat} {Q : Option Value → gH → Prop} {h : gH} {lk sp : Nat} {cd : Option Nat} {cc : Nat} (hR : h.2.2 = gRF lk sp cd) (hlk : lk = 30 ∨ lk = 67) (hsp : sp = 30 ∨ sp = 67) (hcc : cc = 41 ∨ cc = 61 ∨ cc = 78) (vc : gC l G d MJ7_fill_53178 [.ref (cc + 2), .int 0] (sI h cc 3 0) (rV fun h1 => h1.2.2 = ((sI h cc 3 0)).2.2 ∧ gC l G d MJ7_fill_53178 [.ref (cc + 3), .int 0] h1 (rV fun h2 => h2.2.2 = (h1).2.2 ∧ Q none h2))) : gg p l e s m args below meth c G (d + 1) MX0_clear Q 0 [some (.ref cc)] [] h := by
  refine go_aload_n (x := cc) dX0_clear_0 rfl ?_
  refine go_iconst (v := 0) dX0_clear_1 rfl ?_
  refine go_putI dX0_clear_2 f0_21 (scx hcc) rfl rfl ?_
  refine go_aload_n (x := cc) dX0_clear_5 rfl ?_
  refine go_getR (x := (cc + 2)) dX0_clear_6 f0_15 (scx hcc) (fun _ _ => rfl) (rc_s hR hcc (by decide)) ?_
  refine go_iconst (v := 0) dX0_clear_9 rfl ?_
  refine gsV2 MJ7_fill_53178 dX0_clear_10 lX0_25 kJ7_fill_53178 sJ7_fill_53178 (Nat.le_of_ble_eq_true rfl) vc ?_
  intro h1 vc
  obtain ⟨hR1, vc⟩ := vc
  replace hR := hR1.trans hR
  refine go_aload_n (x := cc) dX0_clear_13 rfl ?_
  refine go_getR (x := (cc + 3)) dX0_clear_14 f0_18 (scx hcc) (fun _ _ => rfl) (rc_s hR hcc (by decide)) ?_
  refine go_iconst (v := 0) dX0_clear_17 rfl ?_
  refine gsV2 MJ7_fill_53178 dX0_clear_18 lX0_25 kJ7_fill_53178 sJ7_fill_53178 (Nat.le_of_ble_eq_true rfl) vc ?_
  intro h2 vc
  obtain ⟨hR2, vc⟩ := vc
  replace hR := hR2.trans hR
  exact go_vret dX0_clear_21 rfl vc rfl (Nat.le_refl _) (Nat.le_refl _)
set_option maxRecDepth 20000 in
theorem wX0_add_0 {p : Program} {l : Launch} {e : Env} {s : State} {m : MethodId} {args : Array Value} {below : List Frame} {meth : Method} {c : Code} {G : gG} {d : Nat} {Q : Option Value → gH → Prop} {h : gH} {lk sp : Nat} {cd : Option Nat} {cc : Nat} {a1 : Int32} (hR : h.2.2 = gRF lk sp cd) (hlk : lk = 30 ∨ lk = 67) (hsp : sp = 30 ∨ sp = 67) (hcc : cc = 41 ∨ cc = 61 ∨ cc = 78) (vc : (((h.1 cc 3) < 0 → Q none h) ∧ (¬ (h.1 cc 3) < 0 → ((1600 ≤ (h.1 cc 3) → Q none h) ∧ (¬ 1600 ≤ (h.1 cc 3) → (vp_in ((h.1 cc 3)) 1600 ∧ Q none (sI (sI h (cc + 1) ((h.1 cc 3) : Int32).toNatClampNeg a1) cc 3 ((h.1 cc 3) + 1)))))))) : gg p l e s m args below meth c G d MX0_add Q 0 [some (.ref cc), some (.int a1)] [] h := by
  refine go_aload_n (x := cc) dX0_add_0 rfl ?_
  refine go_getI' (v := (h.1 cc 3)) dX0_add_1 f0_21 (scx hcc) (fun _ _ => rfl) rfl ?_
  refine go_if_lt 37 dX0_add_4 rfl (fun q => ?_) (fun q => ?_)
  · replace vc := vc.1 q
    exact go_vret dX0_add_37 rfl vc rfl (Nat.le_refl _) (Nat.le_refl _)
  · replace vc := vc.2 q
    refine go_aload_n (x := cc) dX0_add_7 rfl ?_
    refine go_getI' (v := (h.1 cc 3)) dX0_add_8 f0_21 (scx hcc) (fun _ _ => rfl) rfl ?_
    refine go_sipush (v := 1600) dX0_add_11 rfl ?_
    refine go_icmp_ge 37 dX0_add_14 rfl (fun q => ?_) (fun q => ?_)
    · replace vc := vc.1 q
      exact go_vret dX0_add_37 rfl vc rfl (Nat.le_refl _) (Nat.le_refl _)
    · replace vc := vc.2 q
      refine go_aload_n (x := cc) dX0_add_17 rfl ?_
      refine go_getR (x := (cc + 1)) dX0_add_18 f0_9 (scx hcc) (fun _ _ => rfl) (rc_s hR hcc (by decide)) ?_
      refine go_aload_n (x := cc) dX0_add_21 rfl ?_
      refine go_getI' (v := (h.1 cc 3)) dX0_add_22 f0_21 (scx hcc) (fun _ _ => rfl) rfl ?_
      refine go_iload_n (x := a1) dX0_add_25 rfl ?_
      refine go_iast dX0_add_26 (sc1 hcc) vc.1 ?_
      have vc := vc.2
      show gg p l e s m args below meth c G d MX0_add Q 27 [some (.ref cc), some (.int a1)] [] (sI h (cc + 1) ((h.1 cc 3) : Int32).toNatClampNeg a1)
      refine go_aload_n (x := cc) dX0_add_27 rfl ?_
      refine go_dup dX0_add_28 rfl ?_
      refine go_getI' (v := (h.1 cc 3)) dX0_add_29 f0_21 (scx hcc) (fun _ _ => rfl) (by first | rfl | simp [sI, sL]) ?_
      refine go_iconst (v := 1) dX0_add_32 rfl ?_
      refine go_iadd dX0_add_33 ?_
      refine go_putI dX0_add_34 f0_21 (scx hcc) rfl rfl ?_
      exact go_vret dX0_add_37 rfl vc rfl (Nat.le_refl _) (Nat.le_refl _)
set_option maxRecDepth 20000 in
theorem wX0_open_0 {p : Program} {l : Launch} {e : Env} {s : State} {m : MethodId} {args : Array Value} {below : List Frame} {meth : Method} {c : Code} {G : gG} {d : Nat} {Q : Option Value → gH → Prop} {h : gH} {lk sp : Nat} {cd : Option Nat} {cc : Nat} {a1 : Int32} (hR : h.2.2 = gRF lk sp cd) (hlk : lk = 30 ∨ lk = 67) (hsp : sp = 30 ∨ sp = 67) (hcc : cc = 41 ∨ cc = 61 ∨ cc = 78) (vc : ((a1 < 0 → Q none h) ∧ (¬ a1 < 0 → ((3 ≤ a1 → Q none h) ∧ (¬ 3 ≤ a1 → (vp_in a1 3 ∧ (vp_in a1 3 ∧ Q none (sI (sI h (cc + 2) a1.toNatClampNeg (h.1 cc 3)) (cc + 3) a1.toNatClampNeg (h.1 cc 3))))))))) : gg p l e s m args below meth c G d MX0_open Q 0 [some (.ref cc), some (.int a1)] [] h := by
  refine go_iload_n (x := a1) dX0_open_0 rfl ?_
  refine go_if_lt 29 dX0_open_1 rfl (fun q => ?_) (fun q => ?_)
  · replace vc := vc.1 q
    exact go_vret dX0_open_29 rfl vc rfl (Nat.le_refl _) (Nat.le_refl _)
  · replace vc := vc.2 q
    refine go_iload_n (x := a1) dX0_open_4 rfl ?_
    refine go_iconst (v := 3) dX0_open_5 rfl ?_
    refine go_icmp_ge 29 dX0_open_6 rfl (fun q => ?_) (fun q => ?_)
    · replace vc := vc.1 q
      exact go_vret dX0_open_29 rfl vc rfl (Nat.le_refl _) (Nat.le_refl _)
    · replace vc := vc.2 q
      refine go_aload_n (x := cc) dX0_open_9 rfl ?_
      refine go_getR (x := (cc + 2)) dX0_open_10 f0_15 (scx hcc) (fun _ _ => rfl) (rc_s hR hcc (by decide)) ?_
      refine go_iload_n (x := a1) dX0_open_13 rfl ?_
      refine go_aload_n (x := cc) dX0_open_14 rfl ?_
      refine go_getI' (v := (h.1 cc 3)) dX0_open_15 f0_21 (scx hcc) (fun _ _ => rfl) rfl ?_
      refine go_iast dX0_open_18 (sc2 hcc) vc.1 ?_
      have vc := vc.2
      show gg p l e s m args below meth c G d MX0_open Q 19 [some (.ref cc), some (.int a1)] [] (sI h (cc + 2) a1.toNatClampNeg (h.1 cc 3))
      refine go_aload_n (x := cc) dX0_open_19 rfl ?_
      refine go_getR (x := (cc + 3)) dX0_open_20 f0_18 (scx hcc) (fun _ _ => rfl) (rc_s hR hcc (by decide)) ?_
      refine go_iload_n (x := a1) dX0_open_23 rfl ?_
      refine go_aload_n (x := cc) dX0_open_24 rfl ?_
      refine go_getI' (v := (h.1 cc 3)) dX0_open_25 f0_21 (scx hcc) (fun _ _ => rfl) (by first | rfl | simp [sI, sL]) ?_
      refine go_iast dX0_open_28 (sc3 hcc) vc.1 ?_
      have vc := vc.2
      show gg p l e s m args below meth c G d MX0_open Q 29 [some (.ref cc), some (.int a1)] [] (sI (sI h (cc + 2) a1.toNatClampNeg (h.1 cc 3)) (cc + 3) a1.toNatClampNeg (h.1 cc 3))
      exact go_vret dX0_open_29 rfl vc rfl (Nat.le_refl _) (Nat.le_refl _)
set_option maxRecDepth 20000 in
theorem wX0_close_0 {p : Program} {l : Launch} {e : Env} {s : State} {m : MethodId} {args : Array Value} {below : List Frame} {meth : Method} {c : Code} {G : gG} {d : Nat} {Q : Option Value → gH → Prop} {h : gH} {lk sp : Nat} {cd : Option Nat} {cc : Nat} {a1 : Int32} (hR : h.2.2 = gRF lk sp cd) (hlk : lk = 30 ∨ lk = 67) (hsp : sp = 30 ∨ sp = 67) (hcc : cc = 41 ∨ cc = 61 ∨ cc = 78) (vc : ((a1 < 0 → Q none h) ∧ (¬ a1 < 0 → ((3 ≤ a1 → Q none h) ∧ (¬ 3 ≤ a1 → (vp_in a1 3 ∧ Q none (sI h (cc + 3) a1.toNatClampNeg (h.1 cc 3)))))))) : gg p l e s m args below meth c G d MX0_close Q 0 [some (.ref cc), some (.int a1)] [] h := by
  refine go_iload_n (x := a1) dX0_close_0 rfl ?_
  refine go_if_lt 19 dX0_close_1 rfl (fun q => ?_) (fun q => ?_)
  · replace vc := vc.1 q
    exact go_vret dX0_close_19 rfl vc rfl (Nat.le_refl _) (Nat.le_refl _)
  · replace vc := vc.2 q
    refine go_iload_n (x := a1) dX0_close_4 rfl ?_
    refine go_iconst (v := 3) dX0_close_5 rfl ?_
    refine go_icmp_ge 19 dX0_close_6 rfl (fun q => ?_) (fun q => ?_)
    · replace vc := vc.1 q
      exact go_vret dX0_close_19 rfl vc rfl (Nat.le_refl _) (Nat.le_refl _)
    · replace vc := vc.2 q
      refine go_aload_n (x := cc) dX0_close_9 rfl ?_
      refine go_getR (x := (cc + 3)) dX0_close_10 f0_18 (scx hcc) (fun _ _ => rfl) (rc_s hR hcc (by decide)) ?_
      refine go_iload_n (x := a1) dX0_close_13 rfl ?_
      refine go_aload_n (x := cc) dX0_close_14 rfl ?_
      refine go_getI' (v := (h.1 cc 3)) dX0_close_15 f0_21 (scx hcc) (fun _ _ => rfl) rfl ?_
      refine go_iast dX0_close_18 (sc3 hcc) vc.1 ?_
      have vc := vc.2
      show gg p l e s m args below meth c G d MX0_close Q 19 [some (.ref cc), some (.int a1)] [] (sI h (cc + 3) a1.toNatClampNeg (h.1 cc 3))
      exact go_vret dX0_close_19 rfl vc rfl (Nat.le_refl _) (Nat.le_refl _)
set_option maxRecDepth 20000 in
theorem wX0_isTold_0 {p : Program} {l : Launch} {e : Env} {s : State} {m : MethodId} {args : Array Value} {below : List Frame} {meth : Method} {c : Code} {G : gG} {d : Nat} {Q : Option Value → gH → Prop} {h : gH} {lk sp : Nat} {cd : Option Nat} {cc : Nat} {a1 : Int32} (hR : h.2.2 = gRF lk sp cd) (hlk : lk = 30 ∨ lk = 67) (hsp : sp = 30 ∨ sp = 67) (hcc : cc = 41 ∨ cc = 61 ∨ cc = 78) (vc : ((a1 < 0 → Q (some (.int 0)) h) ∧ (¬ a1 < 0 → ((3 ≤ a1 → Q (some (.int 0)) h) ∧ (¬ 3 ≤ a1 → (vp_in a1 3 ∧ (vp_in a1 3 ∧ (((h.1 (cc + 3) a1.toNatClampNeg) ≤ (h.1 (cc + 2) a1.toNatClampNeg) → Q (some (.int 0)) h) ∧ (¬ (h.1 (cc + 3) a1.toNatClampNeg) ≤ (h.1 (cc + 2) a1.toNatClampNeg) → Q (some (.int 1)) h))))))))) : gg p l e s m args below meth c G d MX0_isTold Q 0 [some (.ref cc), some (.int a1)] [] h := by
  refine go_iload_n (x := a1) dX0_isTold_0 rfl ?_
  refine go_if_lt 28 dX0_isTold_1 rfl (fun q => ?_) (fun q => ?_)
  · replace vc := vc.1 q
    refine go_iconst (v := 0) dX0_isTold_28 rfl ?_
    exact go_zret dX0_isTold_29 rfl (by decide) vc rfl (Nat.le_refl _) (Nat.le_refl _)
  · replace vc := vc.2 q
    refine go_iload_n (x := a1) dX0_isTold_4 rfl ?_
    refine go_iconst (v := 3) dX0_isTold_5 rfl ?_
    refine go_icmp_ge 28 dX0_isTold_6 rfl (fun q => ?_) (fun q => ?_)
    · replace vc := vc.1 q
      refine go_iconst (v := 0) dX0_isTold_28 rfl ?_
      exact go_zret dX0_isTold_29 rfl (by decide) vc rfl (Nat.le_refl _) (Nat.le_refl _)
    · replace vc := vc.2 q
      refine go_aload_n (x := cc) dX0_isTold_9 rfl ?_
      refine go_getR (x := (cc + 3)) dX0_isTold_10 f0_18 (scx hcc) (fun _ _ => rfl) (rc_s hR hcc (by decide)) ?_
      refine go_iload_n (x := a1) dX0_isTold_13 rfl ?_
      refine go_iald' (v := (h.1 (cc + 3) a1.toNatClampNeg)) dX0_isTold_14 (sc3 hcc) vc.1 rfl ?_
      have vc := vc.2
      refine go_aload_n (x := cc) dX0_isTold_15 rfl ?_
      refine go_getR (x := (cc + 2)) dX0_isTold_16 f0_15 (scx hcc) (fun _ _ => rfl) (rc_s hR hcc (by decide)) ?_
      refine go_iload_n (x := a1) dX0_isTold_19 rfl ?_
      refine go_iald' (v := (h.1 (cc + 2) a1.toNatClampNeg)) dX0_isTold_20 (sc2 hcc) vc.1 rfl ?_
      have vc := vc.2
      refine go_icmp_le 28 dX0_isTold_21 rfl (fun q => ?_) (fun q => ?_)
      · replace vc := vc.1 q
        refine go_iconst (v := 0) dX0_isTold_28 rfl ?_
        exact go_zret dX0_isTold_29 rfl (by decide) vc rfl (Nat.le_refl _) (Nat.le_refl _)
      · replace vc := vc.2 q
        refine go_iconst (v := 1) dX0_isTold_24 rfl ?_
        refine go_goto 29 dX0_isTold_25 rfl ?_
        exact go_zret dX0_isTold_29 rfl (by decide) vc rfl (Nat.le_refl _) (Nat.le_refl _)
set_option maxRecDepth 20000 in
theorem wX5_write_0 {p : Program} {l : Launch} {e : Env} {s : State} {m : MethodId} {args : Array Value} {below : List Frame} {meth : Method} {c : Code} {G : gG} {d : Nat} {Q : Option Value → gH → Prop} {h : gH} {lk sp : Nat} {cd : Option Nat} {a1 : Int32} (hR : h.2.2 = gRF lk sp cd) (hlk : lk = 30 ∨ lk = 67) (hsp : sp = 30 ∨ sp = 67)  (vc : gg p l e s m args below meth c G d MX5_write Q 3 [some (.ref 1), some (.int a1), some (.int 24)] [] h) : gg p l e s m args below meth c G d MX5_write Q 0 [some (.ref 1), some (.int a1), none] [] h := by
  refine go_bipush (v := 24) dX5_write_0 rfl ?_
  refine go_istore_n dX5_write_2 (Nat.le_of_ble_eq_true rfl) ?_
  show gg p l e s m args below meth c G d MX5_write Q 3 [some (.ref 1), some (.int a1), some (.int 24)] [] h
  exact vc
set_option maxRecDepth 20000 in
theorem wX5_write_3 {p : Program} {l : Launch} {e : Env} {s : State} {m : MethodId} {args : Array Value} {below : List Frame} {meth : Method} {c : Code} {G : gG} {d : Nat} {Q : Option Value → gH → Prop} {h : gH} {lk sp : Nat} {cd : Option Nat} {x1 : Int32} {x2 : Int32} (hR : h.2.2 = gRF lk sp cd) (hlk : lk = 30 ∨ lk = 67) (hsp : sp = 30 ∨ sp = 67)  (vc : ((x2 < 0 → Q none h) ∧ (¬ x2 < 0 → (((h.1 1 2) < 0 → gg p l e s m args below meth c G d MX5_write Q 3 [some (.ref 1), some (.int x1), some (.int (x2 + (-8)))] [] h) ∧ (¬ (h.1 1 2) < 0 → ((1600 ≤ (h.1 1 2) → gg p l e s m args below meth c G d MX5_write Q 3 [some (.ref 1), some (.int x1), some (.int (x2 + (-8)))] [] h) ∧ (¬ 1600 ≤ (h.1 1 2) → (vp_in ((h.1 1 2)) 1600 ∧ gg p l e s m args below meth c G d MX5_write Q 3 [some (.ref 1), some (.int x1), some (.int (x2 + (-8)))] [] (sI (sI h 2 ((h.1 1 2) : Int32).toNatClampNeg ((x1 >>> (x2 &&& 31)) &&& 255)) 1 2 ((h.1 1 2) + 1)))))))))) : gg p l e s m args below meth c G d MX5_write Q 3 [some (.ref 1), some (.int x1), some (.int x2)] [] h := by
  refine go_iload_n (x := x2) dX5_write_3 rfl ?_
  refine go_if_lt 56 dX5_write_4 rfl (fun q => ?_) (fun q => ?_)
  · replace vc := vc.1 q
    exact go_vret dX5_write_56 rfl vc rfl (Nat.le_refl _) (Nat.le_refl _)
  · replace vc := vc.2 q
    refine go_aload_n (x := 1) dX5_write_7 rfl ?_
    refine go_getI' (v := (h.1 1 2)) dX5_write_8 f5_18 sh1 (fun _ _ => rfl) rfl ?_
    refine go_if_lt 50 dX5_write_11 rfl (fun q => ?_) (fun q => ?_)
    · replace vc := vc.1 q
      refine go_iinc (x := x2) dX5_write_50 rfl ?_
      show gg p l e s m args below meth c G d MX5_write Q 53 [some (.ref 1), some (.int x1), some (.int (x2 + (-8)))] [] h
      refine go_goto 3 dX5_write_53 rfl ?_
      exact vc
    · replace vc := vc.2 q
      refine go_aload_n (x := 1) dX5_write_14 rfl ?_
      refine go_getI' (v := (h.1 1 2)) dX5_write_15 f5_18 sh1 (fun _ _ => rfl) rfl ?_
      refine go_sipush (v := 1600) dX5_write_18 rfl ?_
      refine go_icmp_ge 50 dX5_write_21 rfl (fun q => ?_) (fun q => ?_)
      · replace vc := vc.1 q
        refine go_iinc (x := x2) dX5_write_50 rfl ?_
        show gg p l e s m args below meth c G d MX5_write Q 53 [some (.ref 1), some (.int x1), some (.int (x2 + (-8)))] [] h
        refine go_goto 3 dX5_write_53 rfl ?_
        exact vc
      · replace vc := vc.2 q
        refine go_aload_n (x := 1) dX5_write_24 rfl ?_
        refine go_getR (x := 2) dX5_write_25 f5_9 sh1 (fun _ _ => rfl) (rf1_0 hR) ?_
        refine go_aload_n (x := 1) dX5_write_28 rfl ?_
        refine go_getI' (v := (h.1 1 2)) dX5_write_29 f5_18 sh1 (fun _ _ => rfl) rfl ?_
        refine go_iload_n (x := x1) dX5_write_32 rfl ?_
        refine go_iload_n (x := x2) dX5_write_33 rfl ?_
        refine go_ishr dX5_write_34 ?_
        refine go_sipush (v := 255) dX5_write_35 rfl ?_
        refine go_iand dX5_write_38 ?_
        refine go_iast dX5_write_39 sh2 vc.1 ?_
        have vc := vc.2
        show gg p l e s m args below meth c G d MX5_write Q 40 [some (.ref 1), some (.int x1), some (.int x2)] [] (sI h 2 ((h.1 1 2) : Int32).toNatClampNeg ((x1 >>> (x2 &&& 31)) &&& 255))
        refine go_aload_n (x := 1) dX5_write_40 rfl ?_
        refine go_dup dX5_write_41 rfl ?_
        refine go_getI' (v := (h.1 1 2)) dX5_write_42 f5_18 sh1 (fun _ _ => rfl) rfl ?_
        refine go_iconst (v := 1) dX5_write_45 rfl ?_
        refine go_iadd dX5_write_46 ?_
        refine go_putI dX5_write_47 f5_18 sh1 rfl rfl ?_
        refine go_iinc (x := x2) dX5_write_50 rfl ?_
        show gg p l e s m args below meth c G d MX5_write Q 53 [some (.ref 1), some (.int x1), some (.int (x2 + (-8)))] [] (sI (sI h 2 ((h.1 1 2) : Int32).toNatClampNeg ((x1 >>> (x2 &&& 31)) &&& 255)) 1 2 ((h.1 1 2) + 1))
        refine go_goto 3 dX5_write_53 rfl ?_
        exact vc
set_option maxRecDepth 20000 in
theorem wX5_rewind_0 {p : Program} {l : Launch} {e : Env} {s : State} {m : MethodId} {args : Array Value} {below : List Frame} {meth : Method} {c : Code} {G : gG} {d : Nat} {Q : Option Value → gH → Prop} {h : gH} {lk sp : Nat} {cd : Option Nat}  (hR : h.2.2 = gRF lk sp cd) (hlk : lk = 30 ∨ lk = 67) (hsp : sp = 30 ∨ sp = 67)  (vc : gC l G d MX5_move [.ref 1] (sI (sI (sI (sI (sI h 1 3 (-1)) 1 4 0) 1 5 0) 1 8 0) 1 9 (-1)) (rV fun h1 => h1.2.2 = ((sI (sI (sI (sI (sI h 1 3 (-1)) 1 4 0) 1 5 0) 1 8 0) 1 9 (-1))).2.2 ∧ Q none h1)) : gg p l e s m args below meth c G (d + 1) MX5_rewind Q 0 [some (.ref 1)] [] h := by
  refine go_aload_n (x := 1) dX5_rewind_0 rfl ?_
  refine go_iconst (v := (-1)) dX5_rewind_1 rfl ?_
  refine go_putI dX5_rewind_2 f5_22 sh1 rfl rfl ?_
  refine go_aload_n (x := 1) dX5_rewind_5 rfl ?_
  refine go_iconst (v := 0) dX5_rewind_6 rfl ?_
  refine go_putI dX5_rewind_7 f5_43 sh1 rfl rfl ?_
  refine go_aload_n (x := 1) dX5_rewind_10 rfl ?_
  refine go_iconst (v := 0) dX5_rewind_11 rfl ?_
  refine go_putI dX5_rewind_12 f5_46 sh1 rfl rfl ?_
  refine go_aload_n (x := 1) dX5_rewind_15 rfl ?_
  refine go_iconst (v := 0) dX5_rewind_16 rfl ?_
  refine go_putI dX5_rewind_17 f5_25 sh1 rfl rfl ?_
  refine go_aload_n (x := 1) dX5_rewind_20 rfl ?_
  refine go_iconst (v := (-1)) dX5_rewind_21 rfl ?_
  refine go_putI dX5_rewind_22 f5_28 sh1 rfl rfl ?_
  refine go_aload_n (x := 1) dX5_rewind_25 rfl ?_
  refine gvV0 MX5_move dX5_rewind_26 lX5_49 kX5_move vX5_move sh1 (by decide) rfl (Nat.le_of_ble_eq_true rfl) vc ?_
  intro h1 vc
  obtain ⟨hR1, vc⟩ := vc
  replace hR := hR1.trans hR
  exact go_vret dX5_rewind_29 rfl vc rfl (Nat.le_refl _) (Nat.le_refl _)
set_option maxRecDepth 20000 in
theorem wX5_move_0 {p : Program} {l : Launch} {e : Env} {s : State} {m : MethodId} {args : Array Value} {below : List Frame} {meth : Method} {c : Code} {G : gG} {d : Nat} {Q : Option Value → gH → Prop} {h : gH} {lk sp : Nat} {cd : Option Nat}  (hR : h.2.2 = gRF lk sp cd) (hlk : lk = 30 ∨ lk = 67) (hsp : sp = 30 ∨ sp = 67)  (vc : gg p l e s m args below meth c G (d + 1) MX5_move Q 5 [some (.ref 1), some (.int (h.1 1 5)), none, none] [] h) : gg p l e s m args below meth c G (d + 1) MX5_move Q 0 [some (.ref 1), none, none, none] [] h := by
  refine go_aload_n (x := 1) dX5_move_0 rfl ?_
  refine go_getI' (v := (h.1 1 5)) dX5_move_1 f5_46 sh1 (fun _ _ => rfl) rfl ?_
  refine go_istore_n dX5_move_4 (Nat.le_of_ble_eq_true rfl) ?_
  show gg p l e s m args below meth c G (d + 1) MX5_move Q 5 [some (.ref 1), some (.int (h.1 1 5)), none, none] [] h
  exact vc
set_option maxRecDepth 20000 in
theorem wX5_move_5 {p : Program} {l : Launch} {e : Env} {s : State} {m : MethodId} {args : Array Value} {below : List Frame} {meth : Method} {c : Code} {G : gG} {d : Nat} {Q : Option Value → gH → Prop} {h : gH} {lk sp : Nat} {cd : Option Nat} {x1 : Int32} (hR : h.2.2 = gRF lk sp cd) (hlk : lk = 30 ∨ lk = 67) (hsp : sp = 30 ∨ sp = 67)  (vc : ((x1 < 0 → gg p l e s m args below meth c G (d + 1) MX5_move Q 42 [some (.ref 1), some (.int x1), none, none] [] h) ∧ (¬ x1 < 0 → (((h.1 1 2) ≤ x1 → gg p l e s m args below meth c G (d + 1) MX5_move Q 42 [some (.ref 1), some (.int x1), none, none] [] h) ∧ (¬ (h.1 1 2) ≤ x1 → ((1600 ≤ x1 → gg p l e s m args below meth c G (d + 1) MX5_move Q 42 [some (.ref 1), some (.int x1), none, none] [] h) ∧ (¬ 1600 ≤ x1 → (vp_in x1 1600 ∧ gC l G d MX5_isBlank [.int (h.1 2 x1.toNatClampNeg)] h (rI fun v1 h1 => h1.2.2 = (h).2.2 ∧ ((v1 = 0 → gg p l e s m args below meth c G (d + 1) MX5_move Q 42 [some (.ref 1), some (.int x1), none, none] [] h1) ∧ (¬ v1 = 0 → gg p l e s m args below meth c G (d + 1) MX5_move Q 5 [some (.ref 1), some (.int (x1 + 1)), none, none] [] h1))))))))))) : gg p l e s m args below meth c G (d + 1) MX5_move Q 5 [some (.ref 1), some (.int x1), none, none] [] h := by
  refine go_iload_n (x := x1) dX5_move_5 rfl ?_
  refine go_if_lt 42 dX5_move_6 rfl (fun q => ?_) (fun q => ?_)
  · replace vc := vc.1 q
    exact vc
  · replace vc := vc.2 q
    refine go_iload_n (x := x1) dX5_move_9 rfl ?_
    refine go_aload_n (x := 1) dX5_move_10 rfl ?_
    refine go_getI' (v := (h.1 1 2)) dX5_move_11 f5_18 sh1 (fun _ _ => rfl) rfl ?_
    refine go_icmp_ge 42 dX5_move_14 rfl (fun q => ?_) (fun q => ?_)
    · replace vc := vc.1 q
      exact vc
    · replace vc := vc.2 q
      refine go_iload_n (x := x1) dX5_move_17 rfl ?_
      refine go_sipush (v := 1600) dX5_move_18 rfl ?_
      refine go_icmp_ge 42 dX5_move_21 rfl (fun q => ?_) (fun q => ?_)
      · replace vc := vc.1 q
        exact vc
      · replace vc := vc.2 q
        refine go_aload_n (x := 1) dX5_move_24 rfl ?_
        refine go_getR (x := 2) dX5_move_25 f5_9 sh1 (fun _ _ => rfl) (rf1_0 hR) ?_
        refine go_iload_n (x := x1) dX5_move_28 rfl ?_
        refine go_iald' (v := (h.1 2 x1.toNatClampNeg)) dX5_move_29 sh2 vc.1 rfl ?_
        have vc := vc.2
        refine gsI1 MX5_isBlank dX5_move_30 lX5_52 kX5_isBlank sX5_isBlank (Nat.le_of_ble_eq_true rfl) vc ?_
        intro v1 h1 vc
        obtain ⟨hR1, vc⟩ := vc
        replace hR := hR1.trans hR
        refine go_if_eq 42 dX5_move_33 rfl (fun q => ?_) (fun q => ?_)
        · replace vc := vc.1 q
          exact vc
        · replace vc := vc.2 q
          refine go_iinc (x := x1) dX5_move_36 rfl ?_
          show gg p l e s m args below meth c G (d + 1) MX5_move Q 39 [some (.ref 1), some (.int (x1 + 1)), none, none] [] h1
          refine go_goto 5 dX5_move_39 rfl ?_
          exact vc
set_option maxRecDepth 20000 in
theorem wX5_move_42 {p : Program} {l : Launch} {e : Env} {s : State} {m : MethodId} {args : Array Value} {below : List Frame} {meth : Method} {c : Code} {G : gG} {d : Nat} {Q : Option Value → gH → Prop} {h : gH} {lk sp : Nat} {cd : Option Nat} {x1 : Int32} (hR : h.2.2 = gRF lk sp cd) (hlk : lk = 30 ∨ lk = 67) (hsp : sp = 30 ∨ sp = 67)  (vc : ((¬ x1 = (h.1 1 5) → gg p l e s m args below meth c G (d + 1) MX5_move Q 72 [some (.ref 1), some (.int x1), none, none] [] h) ∧ (x1 = (h.1 1 5) → (((h.1 1 3) = (-2) → gg p l e s m args below meth c G (d + 1) MX5_move Q 68 [some (.ref 1), some (.int x1), none, none] [] h) ∧ (¬ (h.1 1 3) = (-2) → ((¬ (h.1 1 3) = (-3) → gg p l e s m args below meth c G (d + 1) MX5_move Q 72 [some (.ref 1), some (.int x1), none, none] [] h) ∧ ((h.1 1 3) = (-3) → gg p l e s m args below meth c G (d + 1) MX5_move Q 68 [some (.ref 1), some (.int x1), none, none] [] h))))))) : gg p l e s m args below meth c G (d + 1) MX5_move Q 42 [some (.ref 1), some (.int x1), none, none] [] h := by
  refine go_iload_n (x := x1) dX5_move_42 rfl ?_
  refine go_aload_n (x := 1) dX5_move_43 rfl ?_
  refine go_getI' (v := (h.1 1 5)) dX5_move_44 f5_46 sh1 (fun _ _ => rfl) rfl ?_
  refine go_icmp_ne 72 dX5_move_47 rfl (fun q => ?_) (fun q => ?_)
  · replace vc := vc.1 q
    exact vc
  · replace vc := vc.2 q
    refine go_aload_n (x := 1) dX5_move_50 rfl ?_
    refine go_getI' (v := (h.1 1 3)) dX5_move_51 f5_22 sh1 (fun _ _ => rfl) rfl ?_
    refine go_bipush (v := (-2)) dX5_move_54 rfl ?_
    refine go_icmp_eq 68 dX5_move_56 rfl (fun q => ?_) (fun q => ?_)
    · replace vc := vc.1 q
      exact vc
    · replace vc := vc.2 q
      refine go_aload_n (x := 1) dX5_move_59 rfl ?_
      refine go_getI' (v := (h.1 1 3)) dX5_move_60 f5_22 sh1 (fun _ _ => rfl) rfl ?_
      refine go_bipush (v := (-3)) dX5_move_63 rfl ?_
      refine go_icmp_ne 72 dX5_move_65 rfl (fun q => ?_) (fun q => ?_)
      · replace vc := vc.1 q
        exact vc
      · replace vc := vc.2 q
        exact vc
set_option maxRecDepth 20000 in
theorem wX5_move_68 {p : Program} {l : Launch} {e : Env} {s : State} {m : MethodId} {args : Array Value} {below : List Frame} {meth : Method} {c : Code} {G : gG} {d : Nat} {Q : Option Value → gH → Prop} {h : gH} {lk sp : Nat} {cd : Option Nat} {x1 : Int32} (hR : h.2.2 = gRF lk sp cd) (hlk : lk = 30 ∨ lk = 67) (hsp : sp = 30 ∨ sp = 67)  (vc : ((x1 < 0 → gg p l e s m args below meth c G (d + 1) MX5_move Q 128 [some (.ref 1), some (.int x1), some (.int 1), none] [] (sI (sI (sI h 1 4 x1) 1 5 x1) 1 3 (-1))) ∧ (¬ x1 < 0 → (((h.1 1 2) ≤ x1 → gg p l e s m args below meth c G (d + 1) MX5_move Q 128 [some (.ref 1), some (.int x1), some (.int 1), none] [] (sI (sI (sI h 1 4 x1) 1 5 x1) 1 3 (-1))) ∧ (¬ (h.1 1 2) ≤ x1 → ((1600 ≤ x1 → gg p l e s m args below meth c G (d + 1) MX5_move Q 128 [some (.ref 1), some (.int x1), some (.int 1), none] [] (sI (sI (sI h 1 4 x1) 1 5 x1) 1 3 (-1))) ∧ (¬ 1600 ≤ x1 → (vp_in x1 1600 ∧ gC l G d MX5_kindOf [.int (h.1 2 x1.toNatClampNeg)] (sI (sI (sI h 1 4 x1) 1 5 x1) 1 3 (-1)) (rI fun v1 h1 => h1.2.2 = ((sI (sI (sI h 1 4 x1) 1 5 x1) 1 3 (-1))).2.2 ∧ gg p l e s m args below meth c G (d + 1) MX5_move Q 128 [some (.ref 1), some (.int x1), some (.int 1), none] [] (sI (sI h1 1 3 v1) 1 5 (x1 + 1))))))))))) : gg p l e s m args below meth c G (d + 1) MX5_move Q 68 [some (.ref 1), some (.int x1), none, none] [] h := by
  refine go_iconst (v := 1) dX5_move_68 rfl ?_
  refine go_goto 73 dX5_move_69 rfl ?_
  refine go_istore_n dX5_move_73 (Nat.le_of_ble_eq_true rfl) ?_
  show gg p l e s m args below meth c G (d + 1) MX5_move Q 74 [some (.ref 1), some (.int x1), some (.int 1), none] [] h
  refine go_aload_n (x := 1) dX5_move_74 rfl ?_
  refine go_iload_n (x := x1) dX5_move_75 rfl ?_
  refine go_putI dX5_move_76 f5_43 sh1 rfl rfl ?_
  refine go_aload_n (x := 1) dX5_move_79 rfl ?_
  refine go_iload_n (x := x1) dX5_move_80 rfl ?_
  refine go_putI dX5_move_81 f5_46 sh1 rfl rfl ?_
  refine go_aload_n (x := 1) dX5_move_84 rfl ?_
  refine go_iconst (v := (-1)) dX5_move_85 rfl ?_
  refine go_putI dX5_move_86 f5_22 sh1 rfl rfl ?_
  refine go_iload_n (x := x1) dX5_move_89 rfl ?_
  refine go_if_lt 128 dX5_move_90 rfl (fun q => ?_) (fun q => ?_)
  · replace vc := vc.1 q
    exact vc
  · replace vc := vc.2 q
    refine go_iload_n (x := x1) dX5_move_93 rfl ?_
    refine go_aload_n (x := 1) dX5_move_94 rfl ?_
    refine go_getI' (v := (h.1 1 2)) dX5_move_95 f5_18 sh1 (fun _ _ => rfl) rfl ?_
    refine go_icmp_ge 128 dX5_move_98 rfl (fun q => ?_) (fun q => ?_)
    · replace vc := vc.1 q
      exact vc
    · replace vc := vc.2 q
      refine go_iload_n (x := x1) dX5_move_101 rfl ?_
      refine go_sipush (v := 1600) dX5_move_102 rfl ?_
      refine go_icmp_ge 128 dX5_move_105 rfl (fun q => ?_) (fun q => ?_)
      · replace vc := vc.1 q
        exact vc
      · replace vc := vc.2 q
        refine go_aload_n (x := 1) dX5_move_108 rfl ?_
        refine go_aload_n (x := 1) dX5_move_109 rfl ?_
        refine go_getR (x := 2) dX5_move_110 f5_9 sh1 (fun _ _ => rfl) (rf1_0 hR) ?_
        refine go_iload_n (x := x1) dX5_move_113 rfl ?_
        refine go_iald' (v := (h.1 2 x1.toNatClampNeg)) dX5_move_114 sh2 vc.1 rfl ?_
        have vc := vc.2
        refine gsI1 MX5_kindOf dX5_move_115 lX5_56 kX5_kindOf sX5_kindOf (Nat.le_of_ble_eq_true rfl) vc ?_
        intro v1 h1 vc
        obtain ⟨hR1, vc⟩ := vc
        replace hR := hR1.trans hR
        refine go_putI dX5_move_118 f5_22 sh1 rfl rfl ?_
        refine go_aload_n (x := 1) dX5_move_121 rfl ?_
        refine go_iload_n (x := x1) dX5_move_122 rfl ?_
        refine go_iconst (v := 1) dX5_move_123 rfl ?_
        refine go_iadd dX5_move_124 ?_
        refine go_putI dX5_move_125 f5_46 sh1 rfl rfl ?_
        exact vc
set_option maxRecDepth 20000 in
theorem wX5_move_72 {p : Program} {l : Launch} {e : Env} {s : State} {m : MethodId} {args : Array Value} {below : List Frame} {meth : Method} {c : Code} {G : gG} {d : Nat} {Q : Option Value → gH → Prop} {h : gH} {lk sp : Nat} {cd : Option Nat} {x1 : Int32} (hR : h.2.2 = gRF lk sp cd) (hlk : lk = 30 ∨ lk = 67) (hsp : sp = 30 ∨ sp = 67)  (vc : ((x1 < 0 → gg p l e s m args below meth c G (d + 1) MX5_move Q 128 [some (.ref 1), some (.int x1), some (.int 0), none] [] (sI (sI (sI h 1 4 x1) 1 5 x1) 1 3 (-1))) ∧ (¬ x1 < 0 → (((h.1 1 2) ≤ x1 → gg p l e s m args below meth c G (d + 1) MX5_move Q 128 [some (.ref 1), some (.int x1), some (.int 0), none] [] (sI (sI (sI h 1 4 x1) 1 5 x1) 1 3 (-1))) ∧ (¬ (h.1 1 2) ≤ x1 → ((1600 ≤ x1 → gg p l e s m args below meth c G (d + 1) MX5_move Q 128 [some (.ref 1), some (.int x1), some (.int 0), none] [] (sI (sI (sI h 1 4 x1) 1 5 x1) 1 3 (-1))) ∧ (¬ 1600 ≤ x1 → (vp_in x1 1600 ∧ gC l G d MX5_kindOf [.int (h.1 2 x1.toNatClampNeg)] (sI (sI (sI h 1 4 x1) 1 5 x1) 1 3 (-1)) (rI fun v1 h1 => h1.2.2 = ((sI (sI (sI h 1 4 x1) 1 5 x1) 1 3 (-1))).2.2 ∧ gg p l e s m args below meth c G (d + 1) MX5_move Q 128 [some (.ref 1), some (.int x1), some (.int 0), none] [] (sI (sI h1 1 3 v1) 1 5 (x1 + 1))))))))))) : gg p l e s m args below meth c G (d + 1) MX5_move Q 72 [some (.ref 1), some (.int x1), none, none] [] h := by
  refine go_iconst (v := 0) dX5_move_72 rfl ?_
  refine go_istore_n dX5_move_73 (Nat.le_of_ble_eq_true rfl) ?_
  show gg p l e s m args below meth c G (d + 1) MX5_move Q 74 [some (.ref 1), some (.int x1), some (.int 0), none] [] h
  refine go_aload_n (x := 1) dX5_move_74 rfl ?_
  refine go_iload_n (x := x1) dX5_move_75 rfl ?_
  refine go_putI dX5_move_76 f5_43 sh1 rfl rfl ?_
  refine go_aload_n (x := 1) dX5_move_79 rfl ?_
  refine go_iload_n (x := x1) dX5_move_80 rfl ?_
  refine go_putI dX5_move_81 f5_46 sh1 rfl rfl ?_
  refine go_aload_n (x := 1) dX5_move_84 rfl ?_
  refine go_iconst (v := (-1)) dX5_move_85 rfl ?_
  refine go_putI dX5_move_86 f5_22 sh1 rfl rfl ?_
  refine go_iload_n (x := x1) dX5_move_89 rfl ?_
  refine go_if_lt 128 dX5_move_90 rfl (fun q => ?_) (fun q => ?_)
  · replace vc := vc.1 q
    exact vc
  · replace vc := vc.2 q
    refine go_iload_n (x := x1) dX5_move_93 rfl ?_
    refine go_aload_n (x := 1) dX5_move_94 rfl ?_
    refine go_getI' (v := (h.1 1 2)) dX5_move_95 f5_18 sh1 (fun _ _ => rfl) rfl ?_
    refine go_icmp_ge 128 dX5_move_98 rfl (fun q => ?_) (fun q => ?_)
    · replace vc := vc.1 q
      exact vc
    · replace vc := vc.2 q
      refine go_iload_n (x := x1) dX5_move_101 rfl ?_
      refine go_sipush (v := 1600) dX5_move_102 rfl ?_
      refine go_icmp_ge 128 dX5_move_105 rfl (fun q => ?_) (fun q => ?_)
      · replace vc := vc.1 q
        exact vc
      · replace vc := vc.2 q
        refine go_aload_n (x := 1) dX5_move_108 rfl ?_
        refine go_aload_n (x := 1) dX5_move_109 rfl ?_
        refine go_getR (x := 2) dX5_move_110 f5_9 sh1 (fun _ _ => rfl) (rf1_0 hR) ?_
        refine go_iload_n (x := x1) dX5_move_113 rfl ?_
        refine go_iald' (v := (h.1 2 x1.toNatClampNeg)) dX5_move_114 sh2 vc.1 rfl ?_
        have vc := vc.2
        refine gsI1 MX5_kindOf dX5_move_115 lX5_56 kX5_kindOf sX5_kindOf (Nat.le_of_ble_eq_true rfl) vc ?_
        intro v1 h1 vc
        obtain ⟨hR1, vc⟩ := vc
        replace hR := hR1.trans hR
        refine go_putI dX5_move_118 f5_22 sh1 rfl rfl ?_
        refine go_aload_n (x := 1) dX5_move_121 rfl ?_
        refine go_iload_n (x := x1) dX5_move_122 rfl ?_
        refine go_iconst (v := 1) dX5_move_123 rfl ?_
        refine go_iadd dX5_move_124 ?_
        refine go_putI dX5_move_125 f5_46 sh1 rfl rfl ?_
        exact vc
set_option maxRecDepth 20000 in
theorem wX5_move_128 {p : Program} {l : Launch} {e : Env} {s : State} {m : MethodId} {args : Array Value} {below : List Frame} {meth : Method} {c : Code} {G : gG} {d : Nat} {Q : Option Value → gH → Prop} {h : gH} {lk sp : Nat} {cd : Option Nat} {x1 : Int32} {x2 : Int32} (hR : h.2.2 = gRF lk sp cd) (hlk : lk = 30 ∨ lk = 67) (hsp : sp = 30 ∨ sp = 67)  (vc : (((h.1 1 3) = (-2) → gg p l e s m args below meth c G (d + 1) MX5_move Q 146 [some (.ref 1), some (.int x1), some (.int x2), none] [] h) ∧ (¬ (h.1 1 3) = (-2) → ((¬ (h.1 1 3) = (-3) → gg p l e s m args below meth c G (d + 1) MX5_move Q 152 [some (.ref 1), some (.int x1), some (.int x2), some (.int 0)] [] h) ∧ ((h.1 1 3) = (-3) → gg p l e s m args below meth c G (d + 1) MX5_move Q 146 [some (.ref 1), some (.int x1), some (.int x2), none] [] h))))) : gg p l e s m args below meth c G (d + 1) MX5_move Q 128 [some (.ref 1), some (.int x1), some (.int x2), none] [] h := by
  refine go_aload_n (x := 1) dX5_move_128 rfl ?_
  refine go_getI' (v := (h.1 1 3)) dX5_move_129 f5_22 sh1 (fun _ _ => rfl) rfl ?_
  refine go_bipush (v := (-2)) dX5_move_132 rfl ?_
  refine go_icmp_eq 146 dX5_move_134 rfl (fun q => ?_) (fun q => ?_)
  · replace vc := vc.1 q
    exact vc
  · replace vc := vc.2 q
    refine go_aload_n (x := 1) dX5_move_137 rfl ?_
    refine go_getI' (v := (h.1 1 3)) dX5_move_138 f5_22 sh1 (fun _ _ => rfl) rfl ?_
    refine go_bipush (v := (-3)) dX5_move_141 rfl ?_
    refine go_icmp_ne 150 dX5_move_143 rfl (fun q => ?_) (fun q => ?_)
    · replace vc := vc.1 q
      refine go_iconst (v := 0) dX5_move_150 rfl ?_
      refine go_istore_n dX5_move_151 (Nat.le_of_ble_eq_true rfl) ?_
      show gg p l e s m args below meth c G (d + 1) MX5_move Q 152 [some (.ref 1), some (.int x1), some (.int x2), some (.int 0)] [] h
      exact vc
    · replace vc := vc.2 q
      exact vc
set_option maxRecDepth 20000 in
theorem wX5_move_146 {p : Program} {l : Launch} {e : Env} {s : State} {m : MethodId} {args : Array Value} {below : List Frame} {meth : Method} {c : Code} {G : gG} {d : Nat} {Q : Option Value → gH → Prop} {h : gH} {lk sp : Nat} {cd : Option Nat} {x1 : Int32} {x2 : Int32} (hR : h.2.2 = gRF lk sp cd) (hlk : lk = 30 ∨ lk = 67) (hsp : sp = 30 ∨ sp = 67)  (vc : gg p l e s m args below meth c G (d + 1) MX5_move Q 152 [some (.ref 1), some (.int x1), some (.int x2), some (.int 1)] [] h) : gg p l e s m args below meth c G (d + 1) MX5_move Q 146 [some (.ref 1), some (.int x1), some (.int x2), none] [] h := by
  refine go_iconst (v := 1) dX5_move_146 rfl ?_
  refine go_goto 151 dX5_move_147 rfl ?_
  refine go_istore_n dX5_move_151 (Nat.le_of_ble_eq_true rfl) ?_
  show gg p l e s m args below meth c G (d + 1) MX5_move Q 152 [some (.ref 1), some (.int x1), some (.int x2), some (.int 1)] [] h
  exact vc
set_option maxRecDepth 20000 in
theorem wX5_move_152 {p : Program} {l : Launch} {e : Env} {s : State} {m : MethodId} {args : Array Value} {below : List Frame} {meth : Method} {c : Code} {G : gG} {d : Nat} {Q : Option Value → gH → Prop} {h : gH} {lk sp : Nat} {cd : Option Nat} {x1 : Int32} {x2 : Int32} {x3 : Int32} (hR : h.2.2 = gRF lk sp cd) (hlk : lk = 30 ∨ lk = 67) (hsp : sp = 30 ∨ sp = 67)  (vc : ((x3 = 0 → gg p l e s m args below meth c G (d + 1) MX5_move Q 209 [some (.ref 1), some (.int x1), some (.int x2), some (.int x3)] [] h) ∧ (¬ x3 = 0 → (((h.1 1 2) ≤ (h.1 1 5) → gg p l e s m args below meth c G (d + 1) MX5_move Q 209 [some (.ref 1), some (.int x1), some (.int x2), some (.int x3)] [] h) ∧ (¬ (h.1 1 2) ≤ (h.1 1 5) → ((1600 ≤ (h.1 1 5) → gg p l e s m args below meth c G (d + 1) MX5_move Q 209 [some (.ref 1), some (.int x1), some (.int x2), some (.int x3)] [] h) ∧ (¬ 1600 ≤ (h.1 1 5) → (vp_in ((h.1 1 5)) 1600 ∧ gC l G d MX5_kindOf [.int (h.1 2 ((h.1 1 5) : Int32).toNatClampNeg)] h (rI fun v1 h1 => h1.2.2 = (h).2.2 ∧ ((¬ v1 = (h1.1 1 3) → gg p l e s m args below meth c G (d + 1) MX5_move Q 209 [some (.ref 1), some (.int x1), some (.int x2), some (.int x3)] [] h1) ∧ (v1 = (h1.1 1 3) → gg p l e s m args below meth c G (d + 1) MX5_move Q 152 [some (.ref 1), some (.int x1), some (.int x2), some (.int x3)] [] (sI h1 1 5 ((h1.1 1 5) + 1))))))))))))) : gg p l e s m args below meth c G (d + 1) MX5_move Q 152 [some (.ref 1), some (.int x1), some (.int x2), some (.int x3)] [] h := by
  refine go_iload_n (x := x3) dX5_move_152 rfl ?_
  refine go_if_eq 209 dX5_move_153 rfl (fun q => ?_) (fun q => ?_)
  · replace vc := vc.1 q
    exact vc
  · replace vc := vc.2 q
    refine go_aload_n (x := 1) dX5_move_156 rfl ?_
    refine go_getI' (v := (h.1 1 5)) dX5_move_157 f5_46 sh1 (fun _ _ => rfl) rfl ?_
    refine go_aload_n (x := 1) dX5_move_160 rfl ?_
    refine go_getI' (v := (h.1 1 2)) dX5_move_161 f5_18 sh1 (fun _ _ => rfl) rfl ?_
    refine go_icmp_ge 209 dX5_move_164 rfl (fun q => ?_) (fun q => ?_)
    · replace vc := vc.1 q
      exact vc
    · replace vc := vc.2 q
      refine go_aload_n (x := 1) dX5_move_167 rfl ?_
      refine go_getI' (v := (h.1 1 5)) dX5_move_168 f5_46 sh1 (fun _ _ => rfl) rfl ?_
      refine go_sipush (v := 1600) dX5_move_171 rfl ?_
      refine go_icmp_ge 209 dX5_move_174 rfl (fun q => ?_) (fun q => ?_)
      · replace vc := vc.1 q
        exact vc
      · replace vc := vc.2 q
        refine go_aload_n (x := 1) dX5_move_177 rfl ?_
        refine go_getR (x := 2) dX5_move_178 f5_9 sh1 (fun _ _ => rfl) (rf1_0 hR) ?_
        refine go_aload_n (x := 1) dX5_move_181 rfl ?_
        refine go_getI' (v := (h.1 1 5)) dX5_move_182 f5_46 sh1 (fun _ _ => rfl) rfl ?_
        refine go_iald' (v := (h.1 2 ((h.1 1 5) : Int32).toNatClampNeg)) dX5_move_185 sh2 vc.1 rfl ?_
        have vc := vc.2
        refine gsI1 MX5_kindOf dX5_move_186 lX5_56 kX5_kindOf sX5_kindOf (Nat.le_of_ble_eq_true rfl) vc ?_
        intro v1 h1 vc
        obtain ⟨hR1, vc⟩ := vc
        replace hR := hR1.trans hR
        refine go_aload_n (x := 1) dX5_move_189 rfl ?_
        refine go_getI' (v := (h1.1 1 3)) dX5_move_190 f5_22 sh1 (fun _ _ => rfl) rfl ?_
        refine go_icmp_ne 209 dX5_move_193 rfl (fun q => ?_) (fun q => ?_)
        · replace vc := vc.1 q
          exact vc
        · replace vc := vc.2 q
          refine go_aload_n (x := 1) dX5_move_196 rfl ?_
          refine go_dup dX5_move_197 rfl ?_
          refine go_getI' (v := (h1.1 1 5)) dX5_move_198 f5_46 sh1 (fun _ _ => rfl) rfl ?_
          refine go_iconst (v := 1) dX5_move_201 rfl ?_
          refine go_iadd dX5_move_202 ?_
          refine go_putI dX5_move_203 f5_46 sh1 rfl rfl ?_
          refine go_goto 152 dX5_move_206 rfl ?_
          exact vc
set_option maxRecDepth 20000 in
theorem wX5_move_209 {p : Program} {l : Launch} {e : Env} {s : State} {m : MethodId} {args : Array Value} {below : List Frame} {meth : Method} {c : Code} {G : gG} {d : Nat} {Q : Option Value → gH → Prop} {h : gH} {lk sp : Nat} {cd : Option Nat} {x1 : Int32} {x2 : Int32} {x3 : Int32} (hR : h.2.2 = gRF lk sp cd) (hlk : lk = 30 ∨ lk = 67) (hsp : sp = 30 ∨ sp = 67)  (vc : gC l G d MX5_readWord [.ref 1] h (rV fun h1 => h1.2.2 = (h).2.2 ∧ ((x2 = 0 → gg p l e s m args below meth c G (d + 1) MX5_move Q 227 [some (.ref 1), some (.int x1), some (.int x2), some (.int x3)] [] h1) ∧ (¬ x2 = 0 → ((x3 = 0 → gg p l e s m args below meth c G (d + 1) MX5_move Q 227 [some (.ref 1), some (.int x1), some (.int x2), some (.int x3)] [] h1) ∧ (¬ x3 = 0 → gg p l e s m args below meth c G (d + 1) MX5_move Q 227 [some (.ref 1), some (.int x1), some (.int x2), some (.int x3)] [] (sI h1 1 3 (-4)))))))) : gg p l e s m args below meth c G (d + 1) MX5_move Q 209 [some (.ref 1), some (.int x1), some (.int x2), some (.int x3)] [] h := by
  refine go_aload_n (x := 1) dX5_move_209 rfl ?_
  refine gvV0 MX5_readWord dX5_move_210 lX5_60 kX5_readWord vX5_readWord sh1 (by decide) rfl (Nat.le_of_ble_eq_true rfl) vc ?_
  intro h1 vc
  obtain ⟨hR1, vc⟩ := vc
  replace hR := hR1.trans hR
  refine go_iload_n (x := x2) dX5_move_213 rfl ?_
  refine go_if_eq 227 dX5_move_214 rfl (fun q => ?_) (fun q => ?_)
  · replace vc := vc.1 q
    exact vc
  · replace vc := vc.2 q
    refine go_iload_n (x := x3) dX5_move_217 rfl ?_
    refine go_if_eq 227 dX5_move_218 rfl (fun q => ?_) (fun q => ?_)
    · replace vc := vc.1 q
      exact vc
    · replace vc := vc.2 q
      refine go_aload_n (x := 1) dX5_move_221 rfl ?_
      refine go_bipush (v := (-4)) dX5_move_222 rfl ?_
      refine go_putI dX5_move_224 f5_22 sh1 rfl rfl ?_
      exact vc
set_option maxRecDepth 20000 in
theorem wX5_move_227 {p : Program} {l : Launch} {e : Env} {s : State} {m : MethodId} {args : Array Value} {below : List Frame} {meth : Method} {c : Code} {G : gG} {d : Nat} {Q : Option Value → gH → Prop} {h : gH} {lk sp : Nat} {cd : Option Nat} {x1 : Int32} {x2 : Int32} {x3 : Int32} (hR : h.2.2 = gRF lk sp cd) (hlk : lk = 30 ∨ lk = 67) (hsp : sp = 30 ∨ sp = 67)  (vc : Q none h) : gg p l e s m args below meth c G (d + 1) MX5_move Q 227 [some (.ref 1), some (.int x1), some (.int x2), some (.int x3)] [] h := by
  exact go_vret dX5_move_227 rfl vc rfl (Nat.le_refl _) (Nat.le_refl _)
set_option maxRecDepth 20000 in
theorem wX5_readWord_0 {p : Program} {l : Launch} {e : Env} {s : State} {m : MethodId} {args : Array Value} {below : List Frame} {meth : Method} {c : Code} {G : gG} {d : Nat} {Q : Option Value → gH → Prop} {h : gH} {lk sp : Nat} {cd : Option Nat}  (hR : h.2.2 = gRF lk sp cd) (hlk : lk = 30 ∨ lk = 67) (hsp : sp = 30 ∨ sp = 67)  (vc : ((¬ (h.1 1 3) = (-2) → Q none (sI (sI h 1 7 0) 1 6 (-1))) ∧ ((h.1 1 3) = (-2) → ((((h.1 1 5) - (h.1 1 4)) ≤ 6 → gg p l e s m args below meth c G d MX5_readWord Q 39 [some (.ref 1), some (.int (h.1 1 4)), none] [] (sI (sI h 1 7 0) 1 6 (-1))) ∧ (¬ ((h.1 1 5) - (h.1 1 4)) ≤ 6 → Q none (sI (sI h 1 7 0) 1 6 (-1))))))) : gg p l e s m args below meth c G d MX5_readWord Q 0 [some (.ref 1), none, none] [] h := by
  refine go_aload_n (x := 1) dX5_readWord_0 rfl ?_
  refine go_iconst (v := 0) dX5_readWord_1 rfl ?_
  refine go_putI dX5_readWord_2 f5_63 sh1 rfl rfl ?_
  refine go_aload_n (x := 1) dX5_readWord_5 rfl ?_
  refine go_iconst (v := (-1)) dX5_readWord_6 rfl ?_
  refine go_putI dX5_readWord_7 f5_66 sh1 rfl rfl ?_
  refine go_aload_n (x := 1) dX5_readWord_10 rfl ?_
  refine go_getI' (v := (h.1 1 3)) dX5_readWord_11 f5_22 sh1 (fun _ _ => rfl) rfl ?_
  refine go_bipush (v := (-2)) dX5_readWord_14 rfl ?_
  refine go_icmp_ne 33 dX5_readWord_16 rfl (fun q => ?_) (fun q => ?_)
  · replace vc := vc.1 q
    exact go_vret dX5_readWord_33 rfl vc rfl (Nat.le_refl _) (Nat.le_refl _)
  · replace vc := vc.2 q
    refine go_aload_n (x := 1) dX5_readWord_19 rfl ?_
    refine go_getI' (v := (h.1 1 5)) dX5_readWord_20 f5_46 sh1 (fun _ _ => rfl) rfl ?_
    refine go_aload_n (x := 1) dX5_readWord_23 rfl ?_
    refine go_getI' (v := (h.1 1 4)) dX5_readWord_24 f5_43 sh1 (fun _ _ => rfl) rfl ?_
    refine go_isub dX5_readWord_27 ?_
    refine go_bipush (v := 6) dX5_readWord_28 rfl ?_
    refine go_icmp_le 34 dX5_readWord_30 rfl (fun q => ?_) (fun q => ?_)
    · replace vc := vc.1 q
      refine go_aload_n (x := 1) dX5_readWord_34 rfl ?_
      refine go_getI' (v := (h.1 1 4)) dX5_readWord_35 f5_43 sh1 (fun _ _ => rfl) rfl ?_
      refine go_istore_n dX5_readWord_38 (Nat.le_of_ble_eq_true rfl) ?_
      show gg p l e s m args below meth c G d MX5_readWord Q 39 [some (.ref 1), some (.int (h.1 1 4)), none] [] (sI (sI h 1 7 0) 1 6 (-1))
      exact vc
    · replace vc := vc.2 q
      exact go_vret dX5_readWord_33 rfl vc rfl (Nat.le_refl _) (Nat.le_refl _)
set_option maxRecDepth 20000 in
theorem wX5_readWord_39 {p : Program} {l : Launch} {e : Env} {s : State} {m : MethodId} {args : Array Value} {below : List Frame} {meth : Method} {c : Code} {G : gG} {d : Nat} {Q : Option Value → gH → Prop} {h : gH} {lk sp : Nat} {cd : Option Nat} {x1 : Int32} (hR : h.2.2 = gRF lk sp cd) (hlk : lk = 30 ∨ lk = 67) (hsp : sp = 30 ∨ sp = 67)  (vc : ((((h.1 1 4) + 6) ≤ x1 → gg p l e s m args below meth c G d MX5_readWord Q 113 [some (.ref 1), some (.int 0), none] [] h) ∧ (¬ ((h.1 1 4) + 6) ≤ x1 → ((x1 < 0 → gg p l e s m args below meth c G d MX5_readWord Q 39 [some (.ref 1), some (.int (x1 + 1)), none] [] (sI h 1 7 (((h.1 1 7) <<< (5 &&& 31)) ||| 0))) ∧ (¬ x1 < 0 → (((h.1 1 5) ≤ x1 → gg p l e s m args below meth c G d MX5_readWord Q 39 [some (.ref 1), some (.int (x1 + 1)), none] [] (sI h 1 7 (((h.1 1 7) <<< (5 &&& 31)) ||| 0))) ∧ (¬ (h.1 1 5) ≤ x1 → ((x1 < 1600 → (vp_in x1 1600 ∧ gg p l e s m args below meth c G d MX5_readWord Q 39 [some (.ref 1), some (.int (x1 + 1)), none] [] (sI h 1 7 (((h.1 1 7) <<< (5 &&& 31)) ||| (((h.1 2 x1.toNatClampNeg) - 97) + 1))))) ∧ (¬ x1 < 1600 → gg p l e s m args below meth c G d MX5_readWord Q 39 [some (.ref 1), some (.int (x1 + 1)), none] [] (sI h 1 7 (((h.1 1 7) <<< (5 &&& 31)) ||| 0))))))))))) : gg p l e s m args below meth c G d MX5_readWord Q 39 [some (.ref 1), some (.int x1), none] [] h := by
  refine go_iload_n (x := x1) dX5_readWord_39 rfl ?_
  refine go_aload_n (x := 1) dX5_readWord_40 rfl ?_
  refine go_getI' (v := (h.1 1 4)) dX5_readWord_41 f5_43 sh1 (fun _ _ => rfl) rfl ?_
  refine go_bipush (v := 6) dX5_readWord_44 rfl ?_
  refine go_iadd dX5_readWord_46 ?_
  refine go_icmp_ge 111 dX5_readWord_47 rfl (fun q => ?_) (fun q => ?_)
  · replace vc := vc.1 q
    refine go_iconst (v := 0) dX5_readWord_111 rfl ?_
    refine go_istore_n dX5_readWord_112 (Nat.le_of_ble_eq_true rfl) ?_
    show gg p l e s m args below meth c G d MX5_readWord Q 113 [some (.ref 1), some (.int 0), none] [] h
    exact vc
  · replace vc := vc.2 q
    refine go_iload_n (x := x1) dX5_readWord_50 rfl ?_
    refine go_if_lt 69 dX5_readWord_51 rfl (fun q => ?_) (fun q => ?_)
    · replace vc := vc.1 q
      refine go_iconst (v := 1) dX5_readWord_69 rfl ?_
      refine go_goto 74 dX5_readWord_70 rfl ?_
      refine go_istore_n dX5_readWord_74 (Nat.le_of_ble_eq_true rfl) ?_
      show gg p l e s m args below meth c G d MX5_readWord Q 75 [some (.ref 1), some (.int x1), some (.int 1)] [] h
      refine go_aload_n (x := 1) dX5_readWord_75 rfl ?_
      refine go_aload_n (x := 1) dX5_readWord_76 rfl ?_
      refine go_getI' (v := (h.1 1 7)) dX5_readWord_77 f5_63 sh1 (fun _ _ => rfl) rfl ?_
      refine go_iconst (v := 5) dX5_readWord_80 rfl ?_
      refine go_ishl dX5_readWord_81 ?_
      refine go_iload_n (x := 1) dX5_readWord_82 rfl ?_
      refine go_if_eq 90 dX5_readWord_83 rfl (fun q => absurd q (by decide)) (fun q => ?_)
      refine go_iconst (v := 0) dX5_readWord_86 rfl ?_
      refine go_goto 101 dX5_readWord_87 rfl ?_
      refine go_ior dX5_readWord_101 ?_
      refine go_putI dX5_readWord_102 f5_63 sh1 rfl rfl ?_
      refine go_iinc (x := x1) dX5_readWord_105 rfl ?_
      show gg p l e s m args below meth c G d MX5_readWord Q 108 [some (.ref 1), some (.int (x1 + 1)), some (.int 1)] [] (sI h 1 7 (((h.1 1 7) <<< (5 &&& 31)) ||| 0))
      refine go_goto 39 dX5_readWord_108 rfl ?_
      refine go_weak (ls' := [some (.ref 1), some (.int (x1 + 1)), none]) ?_ vc
      exact (⟨rfl, ⟨rfl, trivial⟩⟩)
    · replace vc := vc.2 q
      refine go_iload_n (x := x1) dX5_readWord_54 rfl ?_
      refine go_aload_n (x := 1) dX5_readWord_55 rfl ?_
      refine go_getI' (v := (h.1 1 5)) dX5_readWord_56 f5_46 sh1 (fun _ _ => rfl) rfl ?_
      refine go_icmp_ge 69 dX5_readWord_59 rfl (fun q => ?_) (fun q => ?_)
      · replace vc := vc.1 q
        refine go_iconst (v := 1) dX5_readWord_69 rfl ?_
        refine go_goto 74 dX5_readWord_70 rfl ?_
        refine go_istore_n dX5_readWord_74 (Nat.le_of_ble_eq_true rfl) ?_
        show gg p l e s m args below meth c G d MX5_readWord Q 75 [some (.ref 1), some (.int x1), some (.int 1)] [] h
        refine go_aload_n (x := 1) dX5_readWord_75 rfl ?_
        refine go_aload_n (x := 1) dX5_readWord_76 rfl ?_
        refine go_getI' (v := (h.1 1 7)) dX5_readWord_77 f5_63 sh1 (fun _ _ => rfl) rfl ?_
        refine go_iconst (v := 5) dX5_readWord_80 rfl ?_
        refine go_ishl dX5_readWord_81 ?_
        refine go_iload_n (x := 1) dX5_readWord_82 rfl ?_
        refine go_if_eq 90 dX5_readWord_83 rfl (fun q => absurd q (by decide)) (fun q => ?_)
        refine go_iconst (v := 0) dX5_readWord_86 rfl ?_
        refine go_goto 101 dX5_readWord_87 rfl ?_
        refine go_ior dX5_readWord_101 ?_
        refine go_putI dX5_readWord_102 f5_63 sh1 rfl rfl ?_
        refine go_iinc (x := x1) dX5_readWord_105 rfl ?_
        show gg p l e s m args below meth c G d MX5_readWord Q 108 [some (.ref 1), some (.int (x1 + 1)), some (.int 1)] [] (sI h 1 7 (((h.1 1 7) <<< (5 &&& 31)) ||| 0))
        refine go_goto 39 dX5_readWord_108 rfl ?_
        refine go_weak (ls' := [some (.ref 1), some (.int (x1 + 1)), none]) ?_ vc
        exact (⟨rfl, ⟨rfl, trivial⟩⟩)
      · replace vc := vc.2 q
        refine go_iload_n (x := x1) dX5_readWord_62 rfl ?_
        refine go_sipush (v := 1600) dX5_readWord_63 rfl ?_
        refine go_icmp_lt 73 dX5_readWord_66 rfl (fun q => ?_) (fun q => ?_)
        · replace vc := vc.1 q
          refine go_iconst (v := 0) dX5_readWord_73 rfl ?_
          refine go_istore_n dX5_readWord_74 (Nat.le_of_ble_eq_true rfl) ?_
          show gg p l e s m args below meth c G d MX5_readWord Q 75 [some (.ref 1), some (.int x1), some (.int 0)] [] h
          refine go_aload_n (x := 1) dX5_readWord_75 rfl ?_
          refine go_aload_n (x := 1) dX5_readWord_76 rfl ?_
          refine go_getI' (v := (h.1 1 7)) dX5_readWord_77 f5_63 sh1 (fun _ _ => rfl) rfl ?_
          refine go_iconst (v := 5) dX5_readWord_80 rfl ?_
          refine go_ishl dX5_readWord_81 ?_
          refine go_iload_n (x := 0) dX5_readWord_82 rfl ?_
          refine go_if_eq 90 dX5_readWord_83 rfl (fun q => ?_) (fun q => absurd q (by decide))
          refine go_aload_n (x := 1) dX5_readWord_90 rfl ?_
          refine go_getR (x := 2) dX5_readWord_91 f5_9 sh1 (fun _ _ => rfl) (rf1_0 hR) ?_
          refine go_iload_n (x := x1) dX5_readWord_94 rfl ?_
          refine go_iald' (v := (h.1 2 x1.toNatClampNeg)) dX5_readWord_95 sh2 vc.1 rfl ?_
          have vc := vc.2
          refine go_bipush (v := 97) dX5_readWord_96 rfl ?_
          refine go_isub dX5_readWord_98 ?_
          refine go_iconst (v := 1) dX5_readWord_99 rfl ?_
          refine go_iadd dX5_readWord_100 ?_
          refine go_ior dX5_readWord_101 ?_
          refine go_putI dX5_readWord_102 f5_63 sh1 rfl rfl ?_
          refine go_iinc (x := x1) dX5_readWord_105 rfl ?_
          show gg p l e s m args below meth c G d MX5_readWord Q 108 [some (.ref 1), some (.int (x1 + 1)), some (.int 0)] [] (sI h 1 7 (((h.1 1 7) <<< (5 &&& 31)) ||| (((h.1 2 x1.toNatClampNeg) - 97) + 1)))
          refine go_goto 39 dX5_readWord_108 rfl ?_
          refine go_weak (ls' := [some (.ref 1), some (.int (x1 + 1)), none]) ?_ vc
          exact (⟨rfl, ⟨rfl, trivial⟩⟩)
        · replace vc := vc.2 q
          refine go_iconst (v := 1) dX5_readWord_69 rfl ?_
          refine go_goto 74 dX5_readWord_70 rfl ?_
          refine go_istore_n dX5_readWord_74 (Nat.le_of_ble_eq_true rfl) ?_
          show gg p l e s m args below meth c G d MX5_readWord Q 75 [some (.ref 1), some (.int x1), some (.int 1)] [] h
          refine go_aload_n (x := 1) dX5_readWord_75 rfl ?_
          refine go_aload_n (x := 1) dX5_readWord_76 rfl ?_
          refine go_getI' (v := (h.1 1 7)) dX5_readWord_77 f5_63 sh1 (fun _ _ => rfl) rfl ?_
          refine go_iconst (v := 5) dX5_readWord_80 rfl ?_
          refine go_ishl dX5_readWord_81 ?_
          refine go_iload_n (x := 1) dX5_readWord_82 rfl ?_
          refine go_if_eq 90 dX5_readWord_83 rfl (fun q => absurd q (by decide)) (fun q => ?_)
          refine go_iconst (v := 0) dX5_readWord_86 rfl ?_
          refine go_goto 101 dX5_readWord_87 rfl ?_
          refine go_ior dX5_readWord_101 ?_
          refine go_putI dX5_readWord_102 f5_63 sh1 rfl rfl ?_
          refine go_iinc (x := x1) dX5_readWord_105 rfl ?_
          show gg p l e s m args below meth c G d MX5_readWord Q 108 [some (.ref 1), some (.int (x1 + 1)), some (.int 1)] [] (sI h 1 7 (((h.1 1 7) <<< (5 &&& 31)) ||| 0))
          refine go_goto 39 dX5_readWord_108 rfl ?_
          refine go_weak (ls' := [some (.ref 1), some (.int (x1 + 1)), none]) ?_ vc
          exact (⟨rfl, ⟨rfl, trivial⟩⟩)
set_option maxRecDepth 20000 in
theorem wX5_readWord_113 {p : Program} {l : Launch} {e : Env} {s : State} {m : MethodId} {args : Array Value} {below : List Frame} {meth : Method} {c : Code} {G : gG} {d : Nat} {Q : Option Value → gH → Prop} {h : gH} {lk sp : Nat} {cd : Option Nat} {x1 : Int32} (hR : h.2.2 = gRF lk sp cd) (hlk : lk = 30 ∨ lk = 67) (hsp : sp = 30 ∨ sp = 67)  (vc : ((40 ≤ x1 → Q none h) ∧ (¬ 40 ≤ x1 → (vp_in x1 40 ∧ ((¬ (h.1 3 x1.toNatClampNeg) = (h.1 1 7) → gg p l e s m args below meth c G d MX5_readWord Q 113 [some (.ref 1), some (.int (x1 + 1)), none] [] (sI h 1 6 (h.1 1 6))) ∧ ((h.1 3 x1.toNatClampNeg) = (h.1 1 7) → gg p l e s m args below meth c G d MX5_readWord Q 113 [some (.ref 1), some (.int (x1 + 1)), none] [] (sI h 1 6 x1))))))) : gg p l e s m args below meth c G d MX5_readWord Q 113 [some (.ref 1), some (.int x1), none] [] h := by
  refine go_iload_n (x := x1) dX5_readWord_113 rfl ?_
  refine go_bipush (v := 40) dX5_readWord_114 rfl ?_
  refine go_icmp_ge 150 dX5_readWord_116 rfl (fun q => ?_) (fun q => ?_)
  · replace vc := vc.1 q
    exact go_vret dX5_readWord_150 rfl vc rfl (Nat.le_refl _) (Nat.le_refl _)
  · replace vc := vc.2 q
    refine go_aload_n (x := 1) dX5_readWord_119 rfl ?_
    refine go_aload_n (x := 1) dX5_readWord_120 rfl ?_
    refine go_getR (x := 3) dX5_readWord_121 f5_15 sh1 (fun _ _ => rfl) (rf1_1 hR) ?_
    refine go_iload_n (x := x1) dX5_readWord_124 rfl ?_
    refine go_iald' (v := (h.1 3 x1.toNatClampNeg)) dX5_readWord_125 sh3 vc.1 rfl ?_
    have vc := vc.2
    refine go_aload_n (x := 1) dX5_readWord_126 rfl ?_
    refine go_getI' (v := (h.1 1 7)) dX5_readWord_127 f5_63 sh1 (fun _ _ => rfl) rfl ?_
    refine go_icmp_ne 137 dX5_readWord_130 rfl (fun q => ?_) (fun q => ?_)
    · replace vc := vc.1 q
      refine go_aload_n (x := 1) dX5_readWord_137 rfl ?_
      refine go_getI' (v := (h.1 1 6)) dX5_readWord_138 f5_66 sh1 (fun _ _ => rfl) rfl ?_
      refine go_putI dX5_readWord_141 f5_66 sh1 rfl rfl ?_
      refine go_iinc (x := x1) dX5_readWord_144 rfl ?_
      show gg p l e s m args below meth c G d MX5_readWord Q 147 [some (.ref 1), some (.int (x1 + 1)), none] [] (sI h 1 6 (h.1 1 6))
      refine go_goto 113 dX5_readWord_147 rfl ?_
      exact vc
    · replace vc := vc.2 q
      refine go_iload_n (x := x1) dX5_readWord_133 rfl ?_
      refine go_goto 141 dX5_readWord_134 rfl ?_
      refine go_putI dX5_readWord_141 f5_66 sh1 rfl rfl ?_
      refine go_iinc (x := x1) dX5_readWord_144 rfl ?_
      show gg p l e s m args below meth c G d MX5_readWord Q 147 [some (.ref 1), some (.int (x1 + 1)), none] [] (sI h 1 6 x1)
      refine go_goto 113 dX5_readWord_147 rfl ?_
      exact vc
set_option maxRecDepth 20000 in
theorem wX5_numberHere_0 {p : Program} {l : Launch} {e : Env} {s : State} {m : MethodId} {args : Array Value} {below : List Frame} {meth : Method} {c : Code} {G : gG} {d : Nat} {Q : Option Value → gH → Prop} {h : gH} {lk sp : Nat} {cd : Option Nat}  (hR : h.2.2 = gRF lk sp cd) (hlk : lk = 30 ∨ lk = 67) (hsp : sp = 30 ∨ sp = 67)  (vc : gg p l e s m args below meth c G d MX5_numberHere Q 7 [some (.ref 1), some (.int 0), some (.int (h.1 1 4))] [] h) : gg p l e s m args below meth c G d MX5_numberHere Q 0 [some (.ref 1), none, none] [] h := by
  refine go_iconst (v := 0) dX5_numberHere_0 rfl ?_
  refine go_istore_n dX5_numberHere_1 (Nat.le_of_ble_eq_true rfl) ?_
  show gg p l e s m args below meth c G d MX5_numberHere Q 2 [some (.ref 1), some (.int 0), none] [] h
  refine go_aload_n (x := 1) dX5_numberHere_2 rfl ?_
  refine go_getI' (v := (h.1 1 4)) dX5_numberHere_3 f5_43 sh1 (fun _ _ => rfl) rfl ?_
  refine go_istore_n dX5_numberHere_6 (Nat.le_of_ble_eq_true rfl) ?_
  show gg p l e s m args below meth c G d MX5_numberHere Q 7 [some (.ref 1), some (.int 0), some (.int (h.1 1 4))] [] h
  exact vc
set_option maxRecDepth 20000 in
theorem wX5_numberHere_7 {p : Program} {l : Launch} {e : Env} {s : State} {m : MethodId} {args : Array Value} {below : List Frame} {meth : Method} {c : Code} {G : gG} {d : Nat} {Q : Option Value → gH → Prop} {h : gH} {lk sp : Nat} {cd : Option Nat} {x1 : Int32} {x2 : Int32} (hR : h.2.2 = gRF lk sp cd) (hlk : lk = 30 ∨ lk = 67) (hsp : sp = 30 ∨ sp = 67)  (vc : ((x2 < 0 → Q (some (.int x1)) h) ∧ (¬ x2 < 0 → (((h.1 1 5) ≤ x2 → Q (some (.int x1)) h) ∧ (¬ (h.1 1 5) ≤ x2 → ((1600 ≤ x2 → Q (some (.int x1)) h) ∧ (¬ 1600 ≤ x2 → (vp_in x2 1600 ∧ gg p l e s m args below meth c G d MX5_numberHere Q 7 [some (.ref 1), some (.int (((x1 * 10) + (h.1 2 x2.toNatClampNeg)) - 48)), some (.int (x2 + 1))] [] h)))))))) : gg p l e s m args below meth c G d MX5_numberHere Q 7 [some (.ref 1), some (.int x1), some (.int x2)] [] h := by
  refine go_iload_n (x := x2) dX5_numberHere_7 rfl ?_
  refine go_if_lt 47 dX5_numberHere_8 rfl (fun q => ?_) (fun q => ?_)
  · replace vc := vc.1 q
    refine go_iload_n (x := x1) dX5_numberHere_47 rfl ?_
    exact go_iret dX5_numberHere_48 rfl vc rfl (Nat.le_refl _) (Nat.le_refl _)
  · replace vc := vc.2 q
    refine go_iload_n (x := x2) dX5_numberHere_11 rfl ?_
    refine go_aload_n (x := 1) dX5_numberHere_12 rfl ?_
    refine go_getI' (v := (h.1 1 5)) dX5_numberHere_13 f5_46 sh1 (fun _ _ => rfl) rfl ?_
    refine go_icmp_ge 47 dX5_numberHere_16 rfl (fun q => ?_) (fun q => ?_)
    · replace vc := vc.1 q
      refine go_iload_n (x := x1) dX5_numberHere_47 rfl ?_
      exact go_iret dX5_numberHere_48 rfl vc rfl (Nat.le_refl _) (Nat.le_refl _)
    · replace vc := vc.2 q
      refine go_iload_n (x := x2) dX5_numberHere_19 rfl ?_
      refine go_sipush (v := 1600) dX5_numberHere_20 rfl ?_
      refine go_icmp_ge 47 dX5_numberHere_23 rfl (fun q => ?_) (fun q => ?_)
      · replace vc := vc.1 q
        refine go_iload_n (x := x1) dX5_numberHere_47 rfl ?_
        exact go_iret dX5_numberHere_48 rfl vc rfl (Nat.le_refl _) (Nat.le_refl _)
      · replace vc := vc.2 q
        refine go_iload_n (x := x1) dX5_numberHere_26 rfl ?_
        refine go_bipush (v := 10) dX5_numberHere_27 rfl ?_
        refine go_imul dX5_numberHere_29 ?_
        refine go_aload_n (x := 1) dX5_numberHere_30 rfl ?_
        refine go_getR (x := 2) dX5_numberHere_31 f5_9 sh1 (fun _ _ => rfl) (rf1_0 hR) ?_
        refine go_iload_n (x := x2) dX5_numberHere_34 rfl ?_
        refine go_iald' (v := (h.1 2 x2.toNatClampNeg)) dX5_numberHere_35 sh2 vc.1 rfl ?_
        have vc := vc.2
        refine go_iadd dX5_numberHere_36 ?_
        refine go_bipush (v := 48) dX5_numberHere_37 rfl ?_
        refine go_isub dX5_numberHere_39 ?_
        refine go_istore_n dX5_numberHere_40 (Nat.le_of_ble_eq_true rfl) ?_
        show gg p l e s m args below meth c G d MX5_numberHere Q 41 [some (.ref 1), some (.int (((x1 * 10) + (h.1 2 x2.toNatClampNeg)) - 48)), some (.int x2)] [] h
        refine go_iinc (x := x2) dX5_numberHere_41 rfl ?_
        show gg p l e s m args below meth c G d MX5_numberHere Q 44 [some (.ref 1), some (.int (((x1 * 10) + (h.1 2 x2.toNatClampNeg)) - 48)), some (.int (x2 + 1))] [] h
        refine go_goto 7 dX5_numberHere_44 rfl ?_
        exact vc
set_option maxRecDepth 20000 in
theorem wX5_fail_0 {p : Program} {l : Launch} {e : Env} {s : State} {m : MethodId} {args : Array Value} {below : List Frame} {meth : Method} {c : Code} {G : gG} {d : Nat} {Q : Option Value → gH → Prop} {h : gH} {lk sp : Nat} {cd : Option Nat} {a1 : Int32} {a2 : Int32} (hR : h.2.2 = gRF lk sp cd) (hlk : lk = 30 ∨ lk = 67) (hsp : sp = 30 ∨ sp = 67)  (vc : Q (some (.int 0)) (sI (sI h 1 8 a1) 1 9 a2)) : gg p l e s m args below meth c G d MX5_fail Q 0 [some (.ref 1), some (.int a1), some (.int a2)] [] h := by
  refine go_aload_n (x := 1) dX5_fail_0 rfl ?_
  refine go_iload_n (x := a1) dX5_fail_1 rfl ?_
  refine go_putI dX5_fail_2 f5_25 sh1 rfl rfl ?_
  refine go_aload_n (x := 1) dX5_fail_5 rfl ?_
  refine go_iload_n (x := a2) dX5_fail_6 rfl ?_
  refine go_putI dX5_fail_7 f5_28 sh1 rfl rfl ?_
  refine go_iconst (v := 0) dX5_fail_10 rfl ?_
  exact go_zret dX5_fail_11 rfl (by decide) vc rfl (Nat.le_refl _) (Nat.le_refl _)
set_option maxRecDepth 20000 in
theorem wX5_failHere_0 {p : Program} {l : Launch} {e : Env} {s : State} {m : MethodId} {args : Array Value} {below : List Frame} {meth : Method} {c : Code} {G : gG} {d : Nat} {Q : Option Value → gH → Prop} {h : gH} {lk sp : Nat} {cd : Option Nat} {a1 : Int32} (hR : h.2.2 = gRF lk sp cd) (hlk : lk = 30 ∨ lk = 67) (hsp : sp = 30 ∨ sp = 67)  (vc : gC l G d MX5_fail [.ref 1, .int a1, .int (h.1 1 4)] h (rI fun v1 h1 => h1.2.2 = (h).2.2 ∧ ((v1 = 0 ∨ v1 = 1) ∧ Q (some (.int v1)) h1))) : gg p l e s m args below meth c G (d + 1) MX5_failHere Q 0 [some (.ref 1), some (.int a1)] [] h := by
  refine go_aload_n (x := 1) dX5_failHere_0 rfl ?_
  refine go_iload_n (x := a1) dX5_failHere_1 rfl ?_
  refine go_aload_n (x := 1) dX5_failHere_2 rfl ?_
  refine go_getI' (v := (h.1 1 4)) dX5_failHere_3 f5_43 sh1 (fun _ _ => rfl) rfl ?_
  refine gvI2 MX5_fail dX5_failHere_6 lX5_69 kX5_fail vX5_fail sh1 (by decide) rfl (Nat.le_of_ble_eq_true rfl) vc ?_
  intro v1 h1 vc
  obtain ⟨hR1, vc⟩ := vc
  replace hR := hR1.trans hR
  exact go_zret dX5_failHere_9 rfl vc.1 vc.2 rfl (Nat.le_refl _) (Nat.le_refl _)
set_option maxRecDepth 20000 in
theorem wX5_isWord_0 {p : Program} {l : Launch} {e : Env} {s : State} {m : MethodId} {args : Array Value} {below : List Frame} {meth : Method} {c : Code} {G : gG} {d : Nat} {Q : Option Value → gH → Prop} {h : gH} {lk sp : Nat} {cd : Option Nat} {a1 : Int32} (hR : h.2.2 = gRF lk sp cd) (hlk : lk = 30 ∨ lk = 67) (hsp : sp = 30 ∨ sp = 67)  (vc : ((¬ (h.1 1 3) = (-2) → Q (some (.int 0)) h) ∧ ((h.1 1 3) = (-2) → ((¬ (h.1 1 6) = a1 → Q (some (.int 0)) h) ∧ ((h.1 1 6) = a1 → Q (some (.int 1)) h))))) : gg p l e s m args below meth c G d MX5_isWord Q 0 [some (.ref 1), some (.int a1)] [] h := by
  refine go_aload_n (x := 1) dX5_isWord_0 rfl ?_
  refine go_getI' (v := (h.1 1 3)) dX5_isWord_1 f5_22 sh1 (fun _ _ => rfl) rfl ?_
  refine go_bipush (v := (-2)) dX5_isWord_4 rfl ?_
  refine go_icmp_ne 21 dX5_isWord_6 rfl (fun q => ?_) (fun q => ?_)
  · replace vc := vc.1 q
    refine go_iconst (v := 0) dX5_isWord_21 rfl ?_
    exact go_zret dX5_isWord_22 rfl (by decide) vc rfl (Nat.le_refl _) (Nat.le_refl _)
  · replace vc := vc.2 q
    refine go_aload_n (x := 1) dX5_isWord_9 rfl ?_
    refine go_getI' (v := (h.1 1 6)) dX5_isWord_10 f5_66 sh1 (fun _ _ => rfl) rfl ?_
    refine go_iload_n (x := a1) dX5_isWord_13 rfl ?_
    refine go_icmp_ne 21 dX5_isWord_14 rfl (fun q => ?_) (fun q => ?_)
    · replace vc := vc.1 q
      refine go_iconst (v := 0) dX5_isWord_21 rfl ?_
      exact go_zret dX5_isWord_22 rfl (by decide) vc rfl (Nat.le_refl _) (Nat.le_refl _)
    · replace vc := vc.2 q
      refine go_iconst (v := 1) dX5_isWord_17 rfl ?_
      refine go_goto 22 dX5_isWord_18 rfl ?_
      exact go_zret dX5_isWord_22 rfl (by decide) vc rfl (Nat.le_refl _) (Nat.le_refl _)
set_option maxRecDepth 20000 in
theorem wX5_takeWord_0 {p : Program} {l : Launch} {e : Env} {s : State} {m : MethodId} {args : Array Value} {below : List Frame} {meth : Method} {c : Code} {G : gG} {d : Nat} {Q : Option Value → gH → Prop} {h : gH} {lk sp : Nat} {cd : Option Nat} {a1 : Int32} (hR : h.2.2 = gRF lk sp cd) (hlk : lk = 30 ∨ lk = 67) (hsp : sp = 30 ∨ sp = 67)  (vc : gC l G d MX5_isWord [.ref 1, .int a1] h (rI fun v1 h1 => h1.2.2 = (h).2.2 ∧ ((¬ v1 = 0 → gC l G d MX5_move [.ref 1] h1 (rV fun h2 => h2.2.2 = (h1).2.2 ∧ Q (some (.int 1)) h2)) ∧ (v1 = 0 → gC l G d MX5_failHere [.ref 1, .int 1] h1 (rI fun v3 h3 => h3.2.2 = (h1).2.2 ∧ ((v3 = 0 ∨ v3 = 1) ∧ Q (some (.int v3)) h3)))))) : gg p l e s m args below meth c G (d + 1) MX5_takeWord Q 0 [some (.ref 1), some (.int a1)] [] h := by
  refine go_aload_n (x := 1) dX5_takeWord_0 rfl ?_
  refine go_iload_n (x := a1) dX5_takeWord_1 rfl ?_
  refine gvI1 MX5_isWord dX5_takeWord_2 lX5_73 kX5_isWord vX5_isWord sh1 (by decide) rfl (Nat.le_of_ble_eq_true rfl) vc ?_
  intro v1 h1 vc
  obtain ⟨hR1, vc⟩ := vc
  replace hR := hR1.trans hR
  refine go_if_ne 14 dX5_takeWord_5 rfl (fun q => ?_) (fun q => ?_)
  · replace vc := vc.1 q
    refine go_aload_n (x := 1) dX5_takeWord_14 rfl ?_
    refine gvV0 MX5_move dX5_takeWord_15 lX5_49 kX5_move vX5_move sh1 (by decide) rfl (Nat.le_of_ble_eq_true rfl) vc ?_
    intro h2 vc
    obtain ⟨hR2, vc⟩ := vc
    replace hR := hR2.trans hR
    refine go_iconst (v := 1) dX5_takeWord_18 rfl ?_
    exact go_zret dX5_takeWord_19 rfl (by decide) vc rfl (Nat.le_refl _) (Nat.le_refl _)
  · replace vc := vc.2 q
    refine go_aload_n (x := 1) dX5_takeWord_8 rfl ?_
    refine go_iconst (v := 1) dX5_takeWord_9 rfl ?_
    refine gvI1 MX5_failHere dX5_takeWord_10 lX5_76 kX5_failHere vX5_failHere sh1 (by decide) rfl (Nat.le_of_ble_eq_true rfl) vc ?_
    intro v3 h3 vc
    obtain ⟨hR3, vc⟩ := vc
    replace hR := hR3.trans hR
    exact go_zret dX5_takeWord_13 rfl vc.1 vc.2 rfl (Nat.le_refl _) (Nat.le_refl _)
set_option maxRecDepth 20000 in
theorem wX5_takeSign_0 {p : Program} {l : Launch} {e : Env} {s : State} {m : MethodId} {args : Array Value} {below : List Frame} {meth : Method} {c : Code} {G : gG} {d : Nat} {Q : Option Value → gH → Prop} {h : gH} {lk sp : Nat} {cd : Option Nat} {a1 : Int32} (hR : h.2.2 = gRF lk sp cd) (hlk : lk = 30 ∨ lk = 67) (hsp : sp = 30 ∨ sp = 67)  (vc : (((h.1 1 3) = a1 → gC l G d MX5_move [.ref 1] h (rV fun h1 => h1.2.2 = (h).2.2 ∧ Q (some (.int 1)) h1)) ∧ (¬ (h.1 1 3) = a1 → gC l G d MX5_failHere [.ref 1, .int 1] h (rI fun v2 h2 => h2.2.2 = (h).2.2 ∧ ((v2 = 0 ∨ v2 = 1) ∧ Q (some (.int v2)) h2))))) : gg p l e s m args below meth c G (d + 1) MX5_takeSign Q 0 [some (.ref 1), some (.int a1)] [] h := by
  refine go_aload_n (x := 1) dX5_takeSign_0 rfl ?_
  refine go_getI' (v := (h.1 1 3)) dX5_takeSign_1 f5_22 sh1 (fun _ _ => rfl) rfl ?_
  refine go_iload_n (x := a1) dX5_takeSign_4 rfl ?_
  refine go_icmp_eq 14 dX5_takeSign_5 rfl (fun q => ?_) (fun q => ?_)
  · replace vc := vc.1 q
    refine go_aload_n (x := 1) dX5_takeSign_14 rfl ?_
    refine gvV0 MX5_move dX5_takeSign_15 lX5_49 kX5_move vX5_move sh1 (by decide) rfl (Nat.le_of_ble_eq_true rfl) vc ?_
    intro h1 vc
    obtain ⟨hR1, vc⟩ := vc
    replace hR := hR1.trans hR
    refine go_iconst (v := 1) dX5_takeSign_18 rfl ?_
    exact go_zret dX5_takeSign_19 rfl (by decide) vc rfl (Nat.le_refl _) (Nat.le_refl _)
  · replace vc := vc.2 q
    refine go_aload_n (x := 1) dX5_takeSign_8 rfl ?_
    refine go_iconst (v := 1) dX5_takeSign_9 rfl ?_
    refine gvI1 MX5_failHere dX5_takeSign_10 lX5_76 kX5_failHere vX5_failHere sh1 (by decide) rfl (Nat.le_of_ble_eq_true rfl) vc ?_
    intro v2 h2 vc
    obtain ⟨hR2, vc⟩ := vc
    replace hR := hR2.trans hR
    exact go_zret dX5_takeSign_13 rfl vc.1 vc.2 rfl (Nat.le_refl _) (Nat.le_refl _)
set_option maxRecDepth 20000 in
theorem wX5_takeNumber_0 {p : Program} {l : Launch} {e : Env} {s : State} {m : MethodId} {args : Array Value} {below : List Frame} {meth : Method} {c : Code} {G : gG} {d : Nat} {Q : Option Value → gH → Prop} {h : gH} {lk sp : Nat} {cd : Option Nat} {a1 : Int32} {a2 : Int32} (hR : h.2.2 = gRF lk sp cd) (hlk : lk = 30 ∨ lk = 67) (hsp : sp = 30 ∨ sp = 67)  (vc : (((h.1 1 3) = (-3) → ((((h.1 1 5) - (h.1 1 4)) ≤ 4 → gC l G d MX5_numberHere [.ref 1] h (rI fun v1 h1 => h1.2.2 = (h).2.2 ∧ ((v1 < a1 → gC l G d MX5_failHere [.ref 1, .int 2] h1 (rI fun v2 h2 => h2.2.2 = (h1).2.2 ∧ Q (some (.int (-1))) h2)) ∧ (¬ v1 < a1 → ((v1 ≤ a2 → gC l G d MX5_move [.ref 1] h1 (rV fun h3 => h3.2.2 = (h1).2.2 ∧ Q (some (.int v1)) h3)) ∧ (¬ v1 ≤ a2 → gC l G d MX5_failHere [.ref 1, .int 2] h1 (rI fun v4 h4 => h4.2.2 = (h1).2.2 ∧ Q (some (.int (-1))) h4))))))) ∧ (¬ ((h.1 1 5) - (h.1 1 4)) ≤ 4 → gC l G d MX5_fail [.ref 1, .int 1, .int ((h.1 1 4) + 4)] h (rI fun v5 h5 => h5.2.2 = (h).2.2 ∧ Q (some (.int (-1))) h5)))) ∧ (¬ (h.1 1 3) = (-3) → gC l G d MX5_failHere [.ref 1, .int 1] h (rI fun v6 h6 => h6.2.2 = (h).2.2 ∧ Q (some (.int (-1))) h6)))) : gg p l e s m args below meth c G (d + 1) MX5_takeNumber Q 0 [some (.ref 1), some (.int a1), some (.int a2), none] [] h := by
  refine go_aload_n (x := 1) dX5_takeNumber_0 rfl ?_
  refine go_getI' (v := (h.1 1 3)) dX5_takeNumber_1 f5_22 sh1 (fun _ _ => rfl) rfl ?_
  refine go_bipush (v := (-3)) dX5_takeNumber_4 rfl ?_
  refine go_icmp_eq 17 dX5_takeNumber_6 rfl (fun q => ?_) (fun q => ?_)
  · replace vc := vc.1 q
    refine go_aload_n (x := 1) dX5_takeNumber_17 rfl ?_
    refine go_getI' (v := (h.1 1 5)) dX5_takeNumber_18 f5_46 sh1 (fun _ _ => rfl) rfl ?_
    refine go_aload_n (x := 1) dX5_takeNumber_21 rfl ?_
    refine go_getI' (v := (h.1 1 4)) dX5_takeNumber_22 f5_43 sh1 (fun _ _ => rfl) rfl ?_
    refine go_isub dX5_takeNumber_25 ?_
    refine go_iconst (v := 4) dX5_takeNumber_26 rfl ?_
    refine go_icmp_le 44 dX5_takeNumber_27 rfl (fun q => ?_) (fun q => ?_)
    · replace vc := vc.1 q
      refine go_aload_n (x := 1) dX5_takeNumber_44 rfl ?_
      refine gvI0 MX5_numberHere dX5_takeNumber_45 lX5_79 kX5_numberHere vX5_numberHere sh1 (by decide) rfl (Nat.le_of_ble_eq_true rfl) vc ?_
      intro v1 h1 vc
      obtain ⟨hR1, vc⟩ := vc
      replace hR := hR1.trans hR
      refine go_istore_n dX5_takeNumber_48 (Nat.le_of_ble_eq_true rfl) ?_
      show gg p l e s m args below meth c G (d + 1) MX5_takeNumber Q 49 [some (.ref 1), some (.int a1), some (.int a2), some (.int v1)] [] h1
      refine go_iload_n (x := v1) dX5_takeNumber_49 rfl ?_
      refine go_iload_n (x := a1) dX5_takeNumber_50 rfl ?_
      refine go_icmp_lt 59 dX5_takeNumber_51 rfl (fun q => ?_) (fun q => ?_)
      · replace vc := vc.1 q
        refine go_aload_n (x := 1) dX5_takeNumber_59 rfl ?_
        refine go_iconst (v := 2) dX5_takeNumber_60 rfl ?_
        refine gvI1 MX5_failHere dX5_takeNumber_61 lX5_76 kX5_failHere vX5_failHere sh1 (by decide) rfl (Nat.le_of_ble_eq_true rfl) vc ?_
        intro v2 h2 vc
        obtain ⟨hR2, vc⟩ := vc
        replace hR := hR2.trans hR
        refine go_pop dX5_takeNumber_64 rfl ?_
        refine go_iconst (v := (-1)) dX5_takeNumber_65 rfl ?_
        exact go_iret dX5_takeNumber_66 rfl vc rfl (Nat.le_refl _) (Nat.le_refl _)
      · replace vc := vc.2 q
        refine go_iload_n (x := v1) dX5_takeNumber_54 rfl ?_
        refine go_iload_n (x := a2) dX5_takeNumber_55 rfl ?_
        refine go_icmp_le 67 dX5_takeNumber_56 rfl (fun q => ?_) (fun q => ?_)
        · replace vc := vc.1 q
          refine go_aload_n (x := 1) dX5_takeNumber_67 rfl ?_
          refine gvV0 MX5_move dX5_takeNumber_68 lX5_49 kX5_move vX5_move sh1 (by decide) rfl (Nat.le_of_ble_eq_true rfl) vc ?_
          intro h3 vc
          obtain ⟨hR3, vc⟩ := vc
          replace hR := hR3.trans hR
          refine go_iload_n (x := v1) dX5_takeNumber_71 rfl ?_
          exact go_iret dX5_takeNumber_72 rfl vc rfl (Nat.le_refl _) (Nat.le_refl _)
        · replace vc := vc.2 q
          refine go_aload_n (x := 1) dX5_takeNumber_59 rfl ?_
          refine go_iconst (v := 2) dX5_takeNumber_60 rfl ?_
          refine gvI1 MX5_failHere dX5_takeNumber_61 lX5_76 kX5_failHere vX5_failHere sh1 (by decide) rfl (Nat.le_of_ble_eq_true rfl) vc ?_
          intro v4 h4 vc
          obtain ⟨hR4, vc⟩ := vc
          replace hR := hR4.trans hR
          refine go_pop dX5_takeNumber_64 rfl ?_
          refine go_iconst (v := (-1)) dX5_takeNumber_65 rfl ?_
          exact go_iret dX5_takeNumber_66 rfl vc rfl (Nat.le_refl _) (Nat.le_refl _)
    · replace vc := vc.2 q
      refine go_aload_n (x := 1) dX5_takeNumber_30 rfl ?_
      refine go_iconst (v := 1) dX5_takeNumber_31 rfl ?_
      refine go_aload_n (x := 1) dX5_takeNumber_32 rfl ?_
      refine go_getI' (v := (h.1 1 4)) dX5_takeNumber_33 f5_43 sh1 (fun _ _ => rfl) rfl ?_
      refine go_iconst (v := 4) dX5_takeNumber_36 rfl ?_
      refine go_iadd dX5_takeNumber_37 ?_
      refine gvI2 MX5_fail dX5_takeNumber_38 lX5_69 kX5_fail vX5_fail sh1 (by decide) rfl (Nat.le_of_ble_eq_true rfl) vc ?_
      intro v5 h5 vc
      obtain ⟨hR5, vc⟩ := vc
      replace hR := hR5.trans hR
      refine go_pop dX5_takeNumber_41 rfl ?_
      refine go_iconst (v := (-1)) dX5_takeNumber_42 rfl ?_
      exact go_iret dX5_takeNumber_43 rfl vc rfl (Nat.le_refl _) (Nat.le_refl _)
  · replace vc := vc.2 q
    refine go_aload_n (x := 1) dX5_takeNumber_9 rfl ?_
    refine go_iconst (v := 1) dX5_takeNumber_10 rfl ?_
    refine gvI1 MX5_failHere dX5_takeNumber_11 lX5_76 kX5_failHere vX5_failHere sh1 (by decide) rfl (Nat.le_of_ble_eq_true rfl) vc ?_
    intro v6 h6 vc
    obtain ⟨hR6, vc⟩ := vc
    replace hR := hR6.trans hR
    refine go_pop dX5_takeNumber_14 rfl ?_
    refine go_iconst (v := (-1)) dX5_takeNumber_15 rfl ?_
    exact go_iret dX5_takeNumber_16 rfl vc rfl (Nat.le_refl _) (Nat.le_refl _)
set_option maxRecDepth 20000 in
theorem wX5_isAtName_0 {p : Program} {l : Launch} {e : Env} {s : State} {m : MethodId} {args : Array Value} {below : List Frame} {meth : Method} {c : Code} {G : gG} {d : Nat} {Q : Option Value → gH → Prop} {h : gH} {lk sp : Nat} {cd : Option Nat}  (hR : h.2.2 = gRF lk sp cd) (hlk : lk = 30 ∨ lk = 67) (hsp : sp = 30 ∨ sp = 67)  (vc : (((h.1 1 3) = (-2) → ((((h.1 1 5) - (h.1 1 4)) ≤ 6 → (((h.1 1 6) = (-1) → Q (some (.int 1)) h) ∧ (¬ (h.1 1 6) = (-1) → ((34 ≤ (h.1 1 6) → Q (some (.int 1)) h) ∧ (¬ 34 ≤ (h.1 1 6) → gC l G d MX5_failHere [.ref 1, .int 1] h (rI fun v1 h1 => h1.2.2 = (h).2.2 ∧ ((v1 = 0 ∨ v1 = 1) ∧ Q (some (.int v1)) h1))))))) ∧ (¬ ((h.1 1 5) - (h.1 1 4)) ≤ 6 → gC l G d MX5_fail [.ref 1, .int 1, .int ((h.1 1 4) + 6)] h (rI fun v2 h2 => h2.2.2 = (h).2.2 ∧ ((v2 = 0 ∨ v2 = 1) ∧ Q (some (.int v2)) h2))))) ∧ (¬ (h.1 1 3) = (-2) → gC l G d MX5_failHere [.ref 1, .int 1] h (rI fun v3 h3 => h3.2.2 = (h).2.2 ∧ ((v3 = 0 ∨ v3 = 1) ∧ Q (some (.int v3)) h3))))) : gg p l e s m args below meth c G (d + 1) MX5_isAtName Q 0 [some (.ref 1)] [] h := by
  refine go_aload_n (x := 1) dX5_isAtName_0 rfl ?_
  refine go_getI' (v := (h.1 1 3)) dX5_isAtName_1 f5_22 sh1 (fun _ _ => rfl) rfl ?_
  refine go_bipush (v := (-2)) dX5_isAtName_4 rfl ?_
  refine go_icmp_eq 15 dX5_isAtName_6 rfl (fun q => ?_) (fun q => ?_)
  · replace vc := vc.1 q
    refine go_aload_n (x := 1) dX5_isAtName_15 rfl ?_
    refine go_getI' (v := (h.1 1 5)) dX5_isAtName_16 f5_46 sh1 (fun _ _ => rfl) rfl ?_
    refine go_aload_n (x := 1) dX5_isAtName_19 rfl ?_
    refine go_getI' (v := (h.1 1 4)) dX5_isAtName_20 f5_43 sh1 (fun _ _ => rfl) rfl ?_
    refine go_isub dX5_isAtName_23 ?_
    refine go_bipush (v := 6) dX5_isAtName_24 rfl ?_
    refine go_icmp_le 42 dX5_isAtName_26 rfl (fun q => ?_) (fun q => ?_)
    · replace vc := vc.1 q
      refine go_aload_n (x := 1) dX5_isAtName_42 rfl ?_
      refine go_getI' (v := (h.1 1 6)) dX5_isAtName_43 f5_66 sh1 (fun _ _ => rfl) rfl ?_
      refine go_iconst (v := (-1)) dX5_isAtName_46 rfl ?_
      refine go_icmp_eq 65 dX5_isAtName_47 rfl (fun q => ?_) (fun q => ?_)
      · replace vc := vc.1 q
        refine go_iconst (v := 1) dX5_isAtName_65 rfl ?_
        exact go_zret dX5_isAtName_66 rfl (by decide) vc rfl (Nat.le_refl _) (Nat.le_refl _)
      · replace vc := vc.2 q
        refine go_aload_n (x := 1) dX5_isAtName_50 rfl ?_
        refine go_getI' (v := (h.1 1 6)) dX5_isAtName_51 f5_66 sh1 (fun _ _ => rfl) rfl ?_
        refine go_bipush (v := 34) dX5_isAtName_54 rfl ?_
        refine go_icmp_ge 65 dX5_isAtName_56 rfl (fun q => ?_) (fun q => ?_)
        · replace vc := vc.1 q
          refine go_iconst (v := 1) dX5_isAtName_65 rfl ?_
          exact go_zret dX5_isAtName_66 rfl (by decide) vc rfl (Nat.le_refl _) (Nat.le_refl _)
        · replace vc := vc.2 q
          refine go_aload_n (x := 1) dX5_isAtName_59 rfl ?_
          refine go_iconst (v := 1) dX5_isAtName_60 rfl ?_
          refine gvI1 MX5_failHere dX5_isAtName_61 lX5_76 kX5_failHere vX5_failHere sh1 (by decide) rfl (Nat.le_of_ble_eq_true rfl) vc ?_
          intro v1 h1 vc
          obtain ⟨hR1, vc⟩ := vc
          replace hR := hR1.trans hR
          exact go_zret dX5_isAtName_64 rfl vc.1 vc.2 rfl (Nat.le_refl _) (Nat.le_refl _)
    · replace vc := vc.2 q
      refine go_aload_n (x := 1) dX5_isAtName_29 rfl ?_
      refine go_iconst (v := 1) dX5_isAtName_30 rfl ?_
      refine go_aload_n (x := 1) dX5_isAtName_31 rfl ?_
      refine go_getI' (v := (h.1 1 4)) dX5_isAtName_32 f5_43 sh1 (fun _ _ => rfl) rfl ?_
      refine go_bipush (v := 6) dX5_isAtName_35 rfl ?_
      refine go_iadd dX5_isAtName_37 ?_
      refine gvI2 MX5_fail dX5_isAtName_38 lX5_69 kX5_fail vX5_fail sh1 (by decide) rfl (Nat.le_of_ble_eq_true rfl) vc ?_
      intro v2 h2 vc
      obtain ⟨hR2, vc⟩ := vc
      replace hR := hR2.trans hR
      exact go_zret dX5_isAtName_41 rfl vc.1 vc.2 rfl (Nat.le_refl _) (Nat.le_refl _)
  · replace vc := vc.2 q
    refine go_aload_n (x := 1) dX5_isAtName_9 rfl ?_
    refine go_iconst (v := 1) dX5_isAtName_10 rfl ?_
    refine gvI1 MX5_failHere dX5_isAtName_11 lX5_76 kX5_failHere vX5_failHere sh1 (by decide) rfl (Nat.le_of_ble_eq_true rfl) vc ?_
    intro v3 h3 vc
    obtain ⟨hR3, vc⟩ := vc
    replace hR := hR3.trans hR
    exact go_zret dX5_isAtName_14 rfl vc.1 vc.2 rfl (Nat.le_refl _) (Nat.le_refl _)
set_option maxRecDepth 20000 in
theorem wX5_isBlank_0 {p : Program} {l : Launch} {e : Env} {s : State} {m : MethodId} {args : Array Value} {below : List Frame} {meth : Method} {c : Code} {G : gG} {d : Nat} {Q : Option Value → gH → Prop} {h : gH} {lk sp : Nat} {cd : Option Nat} {a1 : Int32} (hR : h.2.2 = gRF lk sp cd) (hlk : lk = 30 ∨ lk = 67) (hsp : sp = 30 ∨ sp = 67)  (vc : ((a1 = 10 → Q (some (.int 1)) h) ∧ (¬ a1 = 10 → ((¬ a1 = 32 → Q (some (.int 0)) h) ∧ (a1 = 32 → Q (some (.int 1)) h))))) : gg p l e s m args below meth c G d MX5_isBlank Q 0 [some (.int a1)] [] h := by
  refine go_iload_n (x := a1) dX5_isBlank_0 rfl ?_
  refine go_bipush (v := 10) dX5_isBlank_1 rfl ?_
  refine go_icmp_eq 12 dX5_isBlank_3 rfl (fun q => ?_) (fun q => ?_)
  · replace vc := vc.1 q
    refine go_iconst (v := 1) dX5_isBlank_12 rfl ?_
    refine go_goto 17 dX5_isBlank_13 rfl ?_
    exact go_zret dX5_isBlank_17 rfl (by decide) vc rfl (Nat.le_refl _) (Nat.le_refl _)
  · replace vc := vc.2 q
    refine go_iload_n (x := a1) dX5_isBlank_6 rfl ?_
    refine go_bipush (v := 32) dX5_isBlank_7 rfl ?_
    refine go_icmp_ne 16 dX5_isBlank_9 rfl (fun q => ?_) (fun q => ?_)
    · replace vc := vc.1 q
      refine go_iconst (v := 0) dX5_isBlank_16 rfl ?_
      exact go_zret dX5_isBlank_17 rfl (by decide) vc rfl (Nat.le_refl _) (Nat.le_refl _)
    · replace vc := vc.2 q
      refine go_iconst (v := 1) dX5_isBlank_12 rfl ?_
      refine go_goto 17 dX5_isBlank_13 rfl ?_
      exact go_zret dX5_isBlank_17 rfl (by decide) vc rfl (Nat.le_refl _) (Nat.le_refl _)
set_option maxRecDepth 20000 in
theorem wX5_kindOf_0 {p : Program} {l : Launch} {e : Env} {s : State} {m : MethodId} {args : Array Value} {below : List Frame} {meth : Method} {c : Code} {G : gG} {d : Nat} {Q : Option Value → gH → Prop} {h : gH} {lk sp : Nat} {cd : Option Nat} {a1 : Int32} (hR : h.2.2 = gRF lk sp cd) (hlk : lk = 30 ∨ lk = 67) (hsp : sp = 30 ∨ sp = 67)  (vc : ((a1 < 97 → ((a1 < 48 → Q (some (.int a1)) h) ∧ (¬ a1 < 48 → ((57 < a1 → Q (some (.int a1)) h) ∧ (¬ 57 < a1 → Q (some (.int (-3))) h))))) ∧ (¬ a1 < 97 → ((122 < a1 → ((a1 < 48 → Q (some (.int a1)) h) ∧ (¬ a1 < 48 → ((57 < a1 → Q (some (.int a1)) h) ∧ (¬ 57 < a1 → Q (some (.int (-3))) h))))) ∧ (¬ 122 < a1 → Q (some (.int (-2))) h))))) : gg p l e s m args below meth c G d MX5_kindOf Q 0 [some (.int a1)] [] h := by
  refine go_iload_n (x := a1) dX5_kindOf_0 rfl ?_
  refine go_bipush (v := 97) dX5_kindOf_1 rfl ?_
  refine go_icmp_lt 15 dX5_kindOf_3 rfl (fun q => ?_) (fun q => ?_)
  · replace vc := vc.1 q
    refine go_iload_n (x := a1) dX5_kindOf_15 rfl ?_
    refine go_bipush (v := 48) dX5_kindOf_16 rfl ?_
    refine go_icmp_lt 32 dX5_kindOf_18 rfl (fun q => ?_) (fun q => ?_)
    · replace vc := vc.1 q
      refine go_iload_n (x := a1) dX5_kindOf_32 rfl ?_
      exact go_iret dX5_kindOf_33 rfl vc rfl (Nat.le_refl _) (Nat.le_refl _)
    · replace vc := vc.2 q
      refine go_iload_n (x := a1) dX5_kindOf_21 rfl ?_
      refine go_bipush (v := 57) dX5_kindOf_22 rfl ?_
      refine go_icmp_gt 32 dX5_kindOf_24 rfl (fun q => ?_) (fun q => ?_)
      · replace vc := vc.1 q
        refine go_iload_n (x := a1) dX5_kindOf_32 rfl ?_
        exact go_iret dX5_kindOf_33 rfl vc rfl (Nat.le_refl _) (Nat.le_refl _)
      · replace vc := vc.2 q
        refine go_bipush (v := (-3)) dX5_kindOf_27 rfl ?_
        refine go_goto 33 dX5_kindOf_29 rfl ?_
        exact go_iret dX5_kindOf_33 rfl vc rfl (Nat.le_refl _) (Nat.le_refl _)
  · replace vc := vc.2 q
    refine go_iload_n (x := a1) dX5_kindOf_6 rfl ?_
    refine go_bipush (v := 122) dX5_kindOf_7 rfl ?_
    refine go_icmp_gt 15 dX5_kindOf_9 rfl (fun q => ?_) (fun q => ?_)
    · replace vc := vc.1 q
      refine go_iload_n (x := a1) dX5_kindOf_15 rfl ?_
      refine go_bipush (v := 48) dX5_kindOf_16 rfl ?_
      refine go_icmp_lt 32 dX5_kindOf_18 rfl (fun q => ?_) (fun q => ?_)
      · replace vc := vc.1 q
        refine go_iload_n (x := a1) dX5_kindOf_32 rfl ?_
        exact go_iret dX5_kindOf_33 rfl vc rfl (Nat.le_refl _) (Nat.le_refl _)
      · replace vc := vc.2 q
        refine go_iload_n (x := a1) dX5_kindOf_21 rfl ?_
        refine go_bipush (v := 57) dX5_kindOf_22 rfl ?_
        refine go_icmp_gt 32 dX5_kindOf_24 rfl (fun q => ?_) (fun q => ?_)
        · replace vc := vc.1 q
          refine go_iload_n (x := a1) dX5_kindOf_32 rfl ?_
          exact go_iret dX5_kindOf_33 rfl vc rfl (Nat.le_refl _) (Nat.le_refl _)
        · replace vc := vc.2 q
          refine go_bipush (v := (-3)) dX5_kindOf_27 rfl ?_
          refine go_goto 33 dX5_kindOf_29 rfl ?_
          exact go_iret dX5_kindOf_33 rfl vc rfl (Nat.le_refl _) (Nat.le_refl _)
    · replace vc := vc.2 q
      refine go_bipush (v := (-2)) dX5_kindOf_12 rfl ?_
      exact go_iret dX5_kindOf_14 rfl vc rfl (Nat.le_refl _) (Nat.le_refl _)
set_option maxRecDepth 20000 in
theorem wX3_readInto_0 {p : Program} {l : Launch} {e : Env} {s : State} {m : MethodId} {args : Array Value} {below : List Frame} {meth : Method} {c : Code} {G : gG} {d : Nat} {Q : Option Value → gH → Prop} {h : gH} {lk sp : Nat} {cd : Option Nat} {cc : Nat} {a2 : Int32} {a3 : Int64} (hR : h.2.2 = gRF lk sp cd) (hlk : lk = 30 ∨ lk = 67) (hsp : sp = 30 ∨ sp = 67) (hcc : cc = 41 ∨ cc = 61 ∨ cc = 78) (vc : gC l G d MX5_move [.ref 1] (sL (sR h 4 1 (some cc)) 4 2 a3) (rV fun h1 => h1.2.2 = ((sL (sR h 4 1 (some cc)) 4 2 a3)).2.2 ∧ gC l G d MX0_open [.ref cc, .int a2] h1 (rV fun h2 => h2.2.2 = (h1).2.2 ∧ gC l G d MX3_readSum [.ref 4, .int 0] h2 (rI fun v3 h3 => h3.2.2 = (h2).2.2 ∧ gC l G d MX0_close [.ref cc, .int a2] h3 (rV fun h4 => h4.2.2 = (h3).2.2 ∧ ((v3 = 0 ∨ v3 = 1) ∧ Q (some (.int v3)) h4)))))) : gg p l e s m args below meth c G (d + 1) MX3_readInto Q 0 [some (.ref 4), some (.ref cc), some (.int a2), some (.long a3), none, none] [] h := by
  refine go_aload_n (x := cc) dX3_readInto_0 rfl ?_
  refine go_ifnonnull 6 dX3_readInto_1 rfl ?_
  refine go_aload_n (x := 4) dX3_readInto_6 rfl ?_
  refine go_aload_n (x := cc) dX3_readInto_7 rfl ?_
  refine go_putR (x := cc) dX3_readInto_8 f3_15 sh4 rfl rfl ?_
  replace hR := sRF_cd (x := (some cc)) hR
  refine go_aload_n (x := 4) dX3_readInto_11 rfl ?_
  refine go_lload_n (x := a3) dX3_readInto_12 rfl ?_
  refine go_putL dX3_readInto_13 f3_19 sh4 rfl rfl ?_
  refine go_aload_n (x := 4) dX3_readInto_16 rfl ?_
  refine go_getR (x := 1) dX3_readInto_17 f3_11 sh4 (fun _ _ => rfl) (rf4_0 hR) ?_
  refine gvV0 MX5_move dX3_readInto_20 lX3_23 kX5_move vX5_move sh1 (by decide) rfl (Nat.le_of_ble_eq_true rfl) vc ?_
  intro h1 vc
  obtain ⟨hR1, vc⟩ := vc
  replace hR := hR1.trans hR
  refine go_aload_n (x := cc) dX3_readInto_23 rfl ?_
  refine go_iload_n (x := a2) dX3_readInto_24 rfl ?_
  refine gvV1 MX0_open dX3_readInto_25 lX3_28 kX0_open vX0_open (scx hcc) (by decide) rfl (Nat.le_of_ble_eq_true rfl) vc ?_
  intro h2 vc
  obtain ⟨hR2, vc⟩ := vc
  replace hR := hR2.trans hR
  refine go_aload_n (x := 4) dX3_readInto_28 rfl ?_
  refine go_iconst (v := 0) dX3_readInto_29 rfl ?_
  refine gvI1 MX3_readSum dX3_readInto_30 lX3_34 kX3_readSum vX3_readSum sh4 (by decide) rfl (Nat.le_of_ble_eq_true rfl) vc ?_
  intro v3 h3 vc
  obtain ⟨hR3, vc⟩ := vc
  replace hR := hR3.trans hR
  refine go_istore dX3_readInto_33 (Nat.le_of_ble_eq_true rfl) ?_
  show gg p l e s m args below meth c G (d + 1) MX3_readInto Q 35 [some (.ref 4), some (.ref cc), some (.int a2), some (.long a3), none, some (.int v3)] [] h3
  refine go_aload_n (x := cc) dX3_readInto_35 rfl ?_
  refine go_iload_n (x := a2) dX3_readInto_36 rfl ?_
  refine gvV1 MX0_close dX3_readInto_37 lX3_38 kX0_close vX0_close (scx hcc) (by decide) rfl (Nat.le_of_ble_eq_true rfl) vc ?_
  intro h4 vc
  obtain ⟨hR4, vc⟩ := vc
  replace hR := hR4.trans hR
  refine go_iload (x := v3) dX3_readInto_40 rfl ?_
  exact go_zret dX3_readInto_42 rfl vc.1 vc.2 rfl (Nat.le_refl _) (Nat.le_refl _)
set_option maxRecDepth 20000 in
theorem wX3_readQuestion_0 {p : Program} {l : Launch} {e : Env} {s : State} {m : MethodId} {args : Array Value} {below : List Frame} {meth : Method} {c : Code} {G : gG} {d : Nat} {Q : Option Value → gH → Prop} {h : gH} {lk sp : Nat} {cd : Option Nat} {cc : Nat} (hR : h.2.2 = gRF lk sp cd) (hlk : lk = 30 ∨ lk = 67) (hsp : sp = 30 ∨ sp = 67) (hcc : cc = 41 ∨ cc = 61 ∨ cc = 78) (vc : gC l G d MX5_rewind [.ref 1] h (rV fun h1 => h1.2.2 = (h).2.2 ∧ ((¬ (h1.1 1 3) = (-2) → gC l G d MX5_failHere [.ref 1, .int 1] h1 (rI fun v2 h2 => h2.2.2 = (h1).2.2 ∧ Q (some (.int (-1))) h2)) ∧ ((h1.1 1 3) = (-2) → ((34 ≤ (h1.1 1 6) → (((h1.1 1 6) = 34 → gC l G d MX5_move [.ref 1] (sL (sR h1 4 1 (some cc)) 4 2 252121096) (rV fun h3 => h3.2.2 = ((sL (sR h1 4 1 (some cc)) 4 2 252121096)).2.2 ∧ gC l G d MX0_open [.ref cc, .int 0] h3 (rV fun h4 => h4.2.2 = (h3).2.2 ∧ gC l G d MX3_readTest [.ref 4, .int 0] h4 (rI fun v5 h5 => h5.2.2 = (h4).2.2 ∧ gC l G d MX0_close [.ref cc, .int 0] h5 (rV fun h6 => h6.2.2 = (h5).2.2 ∧ ((v5 = 0 → Q (some (.int (-1))) h6) ∧ (¬ v5 = 0 → gC l G d MX5_takeSign [.ref 1, .int (-1)] h6 (rI fun v7 h7 => h7.2.2 = (h6).2.2 ∧ ((v7 = 0 → Q (some (.int (-1))) h7) ∧ (¬ v7 = 0 → Q (some (.int (h1.1 1 6))) h7)))))))))) ∧ (¬ (h1.1 1 6) = 34 → (((h1.1 1 6) = 35 → gC l G d MX5_move [.ref 1] (sL (sR h1 4 1 (some cc)) 4 2 252121096) (rV fun h8 => h8.2.2 = ((sL (sR h1 4 1 (some cc)) 4 2 252121096)).2.2 ∧ gC l G d MX0_open [.ref cc, .int 0] h8 (rV fun h9 => h9.2.2 = (h8).2.2 ∧ gC l G d MX3_readTest [.ref 4, .int 0] h9 (rI fun v10 h10 => h10.2.2 = (h9).2.2 ∧ gC l G d MX0_close [.ref cc, .int 0] h10 (rV fun h11 => h11.2.2 = (h10).2.2 ∧ ((v10 = 0 → Q (some (.int (-1))) h11) ∧ (¬ v10 = 0 → gC l G d MX5_takeSign [.ref 1, .int (-1)] h11 (rI fun v12 h12 => h12.2.2 = (h11).2.2 ∧ ((v12 = 0 → Q (some (.int (-1))) h12) ∧ (¬ v12 = 0 → Q (some (.int (h1.1 1 6))) h12)))))))))) ∧ (¬ (h1.1 1 6) = 35 → ((¬ (h1.1 1 6) = 36 → gC l G d MX5_move [.ref 1] (sL (sR h1 4 1 (some cc)) 4 2 252121096) (rV fun h13 => h13.2.2 = ((sL (sR h1 4 1 (some cc)) 4 2 252121096)).2.2 ∧ gC l G d MX0_open [.ref cc, .int 0] h13 (rV fun h14 => h14.2.2 = (h13).2.2 ∧ gC l G d MX3_readSum [.ref 4, .int 0] h14 (rI fun v15 h15 => h15.2.2 = (h14).2.2 ∧ gC l G d MX0_close [.ref cc, .int 0] h15 (rV fun h16 => h16.2.2 = (h15).2.2 ∧ ((v15 = 0 → Q (some (.int (-1))) h16) ∧ (¬ v15 = 0 → gC l G d MX5_takeSign [.ref 1, .int (-1)] h16 (rI fun v17 h17 => h17.2.2 = (h16).2.2 ∧ ((v17 = 0 → Q (some (.int (-1))) h17) ∧ (¬ v17 = 0 → Q (some (.int (h1.1 1 6))) h17)))))))))) ∧ ((h1.1 1 6) = 36 → gC l G d MX5_move [.ref 1] (sL (sR h1 4 1 (some cc)) 4 2 252121096) (rV fun h18 => h18.2.2 = ((sL (sR h1 4 1 (some cc)) 4 2 252121096)).2.2 ∧ gC l G d MX0_open [.ref cc, .int 0] h18 (rV fun h19 => h19.2.2 = (h18).2.2 ∧ gC l G d MX3_readTest [.ref 4, .int 0] h19 (rI fun v20 h20 => h20.2.2 = (h19).2.2 ∧ gC l G d MX0_close [.ref cc, .int 0] h20 (rV fun h21 => h21.2.2 = (h20).2.2 ∧ ((v20 = 0 → Q (some (.int (-1))) h21) ∧ (¬ v20 = 0 → gC l G d MX5_takeSign [.ref 1, .int (-1)] h21 (rI fun v22 h22 => h22.2.2 = (h21).2.2 ∧ ((v22 = 0 → Q (some (.int (-1))) h22) ∧ (¬ v22 = 0 → Q (some (.int (h1.1 1 6))) h22)))))))))))))))) ∧ (¬ 34 ≤ (h1.1 1 6) → gC l G d MX5_failHere [.ref 1, .int 1] h1 (rI fun v23 h23 => h23.2.2 = (h1).2.2 ∧ Q (some (.int (-1))) h23))))))) : gg p l e s m args below meth c G (d + 1) MX3_readQuestion Q 0 [some (.ref 4), some (.ref cc), none, none, none] [] h := by
  refine go_aload_n (x := 4) dX3_readQuestion_0 rfl ?_
  refine go_getR (x := 1) dX3_readQuestion_1 f3_11 sh4 (fun _ _ => rfl) (rf4_0 hR) ?_
  refine gvV0 MX5_rewind dX3_readQuestion_4 lX3_41 kX5_rewind vX5_rewind sh1 (by decide) rfl (Nat.le_of_ble_eq_true rfl) vc ?_
  intro h1 vc
  obtain ⟨hR1, vc⟩ := vc
  replace hR := hR1.trans hR
  refine go_aload_n (x := cc) dX3_readQuestion_7 rfl ?_
  refine go_ifnull dX3_readQuestion_8 ?_
  refine go_aload_n (x := 4) dX3_readQuestion_11 rfl ?_
  refine go_getR (x := 1) dX3_readQuestion_12 f3_11 sh4 (fun _ _ => rfl) (rf4_0 hR) ?_
  refine go_getI' (v := (h1.1 1 3)) dX3_readQuestion_15 f3_44 sh1 (fun _ _ => rfl) rfl ?_
  refine go_bipush (v := (-2)) dX3_readQuestion_18 rfl ?_
  refine go_icmp_ne 35 dX3_readQuestion_20 rfl (fun q => ?_) (fun q => ?_)
  · replace vc := vc.1 q
    refine go_aload_n (x := 4) dX3_readQuestion_35 rfl ?_
    refine go_getR (x := 1) dX3_readQuestion_36 f3_11 sh4 (fun _ _ => rfl) (rf4_0 hR) ?_
    refine go_iconst (v := 1) dX3_readQuestion_39 rfl ?_
    refine gvI1 MX5_failHere dX3_readQuestion_40 lX3_51 kX5_failHere vX5_failHere sh1 (by decide) rfl (Nat.le_of_ble_eq_true rfl) vc ?_
    intro v2 h2 vc
    obtain ⟨hR2, vc⟩ := vc
    replace hR := hR2.trans hR
    refine go_pop dX3_readQuestion_43 rfl ?_
    refine go_iconst (v := (-1)) dX3_readQuestion_44 rfl ?_
    exact go_iret dX3_readQuestion_45 rfl vc rfl (Nat.le_refl _) (Nat.le_refl _)
  · replace vc := vc.2 q
    refine go_aload_n (x := 4) dX3_readQuestion_23 rfl ?_
    refine go_getR (x := 1) dX3_readQuestion_24 f3_11 sh4 (fun _ _ => rfl) (rf4_0 hR) ?_
    refine go_getI' (v := (h1.1 1 6)) dX3_readQuestion_27 f3_48 sh1 (fun _ _ => rfl) rfl ?_
    refine go_bipush (v := 34) dX3_readQuestion_30 rfl ?_
    refine go_icmp_ge 46 dX3_readQuestion_32 rfl (fun q => ?_) (fun q => ?_)
    · replace vc := vc.1 q
      refine go_aload_n (x := 4) dX3_readQuestion_46 rfl ?_
      refine go_getR (x := 1) dX3_readQuestion_47 f3_11 sh4 (fun _ _ => rfl) (rf4_0 hR) ?_
      refine go_getI' (v := (h1.1 1 6)) dX3_readQuestion_50 f3_48 sh1 (fun _ _ => rfl) rfl ?_
      refine go_istore_n dX3_readQuestion_53 (Nat.le_of_ble_eq_true rfl) ?_
      show gg p l e s m args below meth c G (d + 1) MX3_readQuestion Q 54 [some (.ref 4), some (.ref cc), some (.int (h1.1 1 6)), none, none] [] h1
      refine go_iload_n (x := (h1.1 1 6)) dX3_readQuestion_54 rfl ?_
      refine go_bipush (v := 34) dX3_readQuestion_55 rfl ?_
      refine go_icmp_eq 72 dX3_readQuestion_57 rfl (fun q => ?_) (fun q => ?_)
      · replace vc := vc.1 q
        refine go_iconst (v := 1) dX3_readQuestion_72 rfl ?_
        refine go_goto 77 dX3_readQuestion_73 rfl ?_
        refine go_istore_n dX3_readQuestion_77 (Nat.le_of_ble_eq_true rfl) ?_
        show gg p l e s m args below meth c G (d + 1) MX3_readQuestion Q 78 [some (.ref 4), some (.ref cc), some (.int (h1.1 1 6)), some (.int 1), none] [] h1
        refine go_aload_n (x := 4) dX3_readQuestion_78 rfl ?_
        refine go_aload_n (x := cc) dX3_readQuestion_79 rfl ?_
        refine go_putR (x := cc) dX3_readQuestion_80 f3_15 sh4 rfl rfl ?_
        replace hR := sRF_cd (x := (some cc)) hR
        refine go_aload_n (x := 4) dX3_readQuestion_83 rfl ?_
        refine go_ldc2 (v := 252121096) dX3_readQuestion_84 nX3_54 ?_
        refine go_putL dX3_readQuestion_87 f3_19 sh4 rfl rfl ?_
        refine go_aload_n (x := 4) dX3_readQuestion_90 rfl ?_
        refine go_getR (x := 1) dX3_readQuestion_91 f3_11 sh4 (fun _ _ => rfl) (rf4_0 hR) ?_
        refine gvV0 MX5_move dX3_readQuestion_94 lX3_23 kX5_move vX5_move sh1 (by decide) rfl (Nat.le_of_ble_eq_true rfl) vc ?_
        intro h3 vc
        obtain ⟨hR3, vc⟩ := vc
        replace hR := hR3.trans hR
        refine go_aload_n (x := cc) dX3_readQuestion_97 rfl ?_
        refine go_iconst (v := 0) dX3_readQuestion_98 rfl ?_
        refine gvV1 MX0_open dX3_readQuestion_99 lX3_28 kX0_open vX0_open (scx hcc) (by decide) rfl (Nat.le_of_ble_eq_true rfl) vc ?_
        intro h4 vc
        obtain ⟨hR4, vc⟩ := vc
        replace hR := hR4.trans hR
        refine go_iload_n (x := 1) dX3_readQuestion_102 rfl ?_
        refine go_if_eq 114 dX3_readQuestion_103 rfl (fun q => absurd q (by decide)) (fun q => ?_)
        refine go_aload_n (x := 4) dX3_readQuestion_106 rfl ?_
        refine go_iconst (v := 0) dX3_readQuestion_107 rfl ?_
        refine gvI1 MX3_readTest dX3_readQuestion_108 lX3_56 kX3_readTest vX3_readTest sh4 (by decide) rfl (Nat.le_of_ble_eq_true rfl) vc ?_
        intro v5 h5 vc
        obtain ⟨hR5, vc⟩ := vc
        replace hR := hR5.trans hR
        refine go_goto 119 dX3_readQuestion_111 rfl ?_
        refine go_istore dX3_readQuestion_119 (Nat.le_of_ble_eq_true rfl) ?_
        show gg p l e s m args below meth c G (d + 1) MX3_readQuestion Q 121 [some (.ref 4), some (.ref cc), some (.int (h1.1 1 6)), some (.int 1), some (.int v5)] [] h5
        refine go_aload_n (x := cc) dX3_readQuestion_121 rfl ?_
        refine go_iconst (v := 0) dX3_readQuestion_122 rfl ?_
        refine gvV1 MX0_close dX3_readQuestion_123 lX3_38 kX0_close vX0_close (scx hcc) (by decide) rfl (Nat.le_of_ble_eq_true rfl) vc ?_
        intro h6 vc
        obtain ⟨hR6, vc⟩ := vc
        replace hR := hR6.trans hR
        refine go_iload (x := v5) dX3_readQuestion_126 rfl ?_
        refine go_if_eq 146 dX3_readQuestion_128 rfl (fun q => ?_) (fun q => ?_)
        · replace vc := vc.1 q
          refine go_iconst (v := (-1)) dX3_readQuestion_146 rfl ?_
          exact go_iret dX3_readQuestion_147 rfl vc rfl (Nat.le_refl _) (Nat.le_refl _)
        · replace vc := vc.2 q
          refine go_aload_n (x := 4) dX3_readQuestion_131 rfl ?_
          refine go_getR (x := 1) dX3_readQuestion_132 f3_11 sh4 (fun _ _ => rfl) (rf4_0 hR) ?_
          refine go_iconst (v := (-1)) dX3_readQuestion_135 rfl ?_
          refine gvI1 MX5_takeSign dX3_readQuestion_136 lX3_59 kX5_takeSign vX5_takeSign sh1 (by decide) rfl (Nat.le_of_ble_eq_true rfl) vc ?_
          intro v7 h7 vc
          obtain ⟨hR7, vc⟩ := vc
          replace hR := hR7.trans hR
          refine go_if_eq 146 dX3_readQuestion_139 rfl (fun q => ?_) (fun q => ?_)
          · replace vc := vc.1 q
            refine go_iconst (v := (-1)) dX3_readQuestion_146 rfl ?_
            exact go_iret dX3_readQuestion_147 rfl vc rfl (Nat.le_refl _) (Nat.le_refl _)
          · replace vc := vc.2 q
            refine go_iload_n (x := (h1.1 1 6)) dX3_readQuestion_142 rfl ?_
            refine go_goto 147 dX3_readQuestion_143 rfl ?_
            exact go_iret dX3_readQuestion_147 rfl vc rfl (Nat.le_refl _) (Nat.le_refl _)
      · replace vc := vc.2 q
        refine go_iload_n (x := (h1.1 1 6)) dX3_readQuestion_60 rfl ?_
        refine go_bipush (v := 35) dX3_readQuestion_61 rfl ?_
        refine go_icmp_eq 72 dX3_readQuestion_63 rfl (fun q => ?_) (fun q => ?_)
        · replace vc := vc.1 q
          refine go_iconst (v := 1) dX3_readQuestion_72 rfl ?_
          refine go_goto 77 dX3_readQuestion_73 rfl ?_
          refine go_istore_n dX3_readQuestion_77 (Nat.le_of_ble_eq_true rfl) ?_
          show gg p l e s m args below meth c G (d + 1) MX3_readQuestion Q 78 [some (.ref 4), some (.ref cc), some (.int (h1.1 1 6)), some (.int 1), none] [] h1
          refine go_aload_n (x := 4) dX3_readQuestion_78 rfl ?_
          refine go_aload_n (x := cc) dX3_readQuestion_79 rfl ?_
          refine go_putR (x := cc) dX3_readQuestion_80 f3_15 sh4 rfl rfl ?_
          replace hR := sRF_cd (x := (some cc)) hR
          refine go_aload_n (x := 4) dX3_readQuestion_83 rfl ?_
          refine go_ldc2 (v := 252121096) dX3_readQuestion_84 nX3_54 ?_
          refine go_putL dX3_readQuestion_87 f3_19 sh4 rfl rfl ?_
          refine go_aload_n (x := 4) dX3_readQuestion_90 rfl ?_
          refine go_getR (x := 1) dX3_readQuestion_91 f3_11 sh4 (fun _ _ => rfl) (rf4_0 hR) ?_
          refine gvV0 MX5_move dX3_readQuestion_94 lX3_23 kX5_move vX5_move sh1 (by decide) rfl (Nat.le_of_ble_eq_true rfl) vc ?_
          intro h8 vc
          obtain ⟨hR8, vc⟩ := vc
          replace hR := hR8.trans hR
          refine go_aload_n (x := cc) dX3_readQuestion_97 rfl ?_
          refine go_iconst (v := 0) dX3_readQuestion_98 rfl ?_
          refine gvV1 MX0_open dX3_readQuestion_99 lX3_28 kX0_open vX0_open (scx hcc) (by decide) rfl (Nat.le_of_ble_eq_true rfl) vc ?_
          intro h9 vc
          obtain ⟨hR9, vc⟩ := vc
          replace hR := hR9.trans hR
          refine go_iload_n (x := 1) dX3_readQuestion_102 rfl ?_
          refine go_if_eq 114 dX3_readQuestion_103 rfl (fun q => absurd q (by decide)) (fun q => ?_)
          refine go_aload_n (x := 4) dX3_readQuestion_106 rfl ?_
          refine go_iconst (v := 0) dX3_readQuestion_107 rfl ?_
          refine gvI1 MX3_readTest dX3_readQuestion_108 lX3_56 kX3_readTest vX3_readTest sh4 (by decide) rfl (Nat.le_of_ble_eq_true rfl) vc ?_
          intro v10 h10 vc
          obtain ⟨hR10, vc⟩ := vc
          replace hR := hR10.trans hR
          refine go_goto 119 dX3_readQuestion_111 rfl ?_
          refine go_istore dX3_readQuestion_119 (Nat.le_of_ble_eq_true rfl) ?_
          show gg p l e s m args below meth c G (d + 1) MX3_readQuestion Q 121 [some (.ref 4), some (.ref cc), some (.int (h1.1 1 6)), some (.int 1), some (.int v10)] [] h10
          refine go_aload_n (x := cc) dX3_readQuestion_121 rfl ?_
          refine go_iconst (v := 0) dX3_readQuestion_122 rfl ?_
          refine gvV1 MX0_close dX3_readQuestion_123 lX3_38 kX0_close vX0_close (scx hcc) (by decide) rfl (Nat.le_of_ble_eq_true rfl) vc ?_
          intro h11 vc
          obtain ⟨hR11, vc⟩ := vc
          replace hR := hR11.trans hR
          refine go_iload (x := v10) dX3_readQuestion_126 rfl ?_
          refine go_if_eq 146 dX3_readQuestion_128 rfl (fun q => ?_) (fun q => ?_)
          · replace vc := vc.1 q
            refine go_iconst (v := (-1)) dX3_readQuestion_146 rfl ?_
            exact go_iret dX3_readQuestion_147 rfl vc rfl (Nat.le_refl _) (Nat.le_refl _)
          · replace vc := vc.2 q
            refine go_aload_n (x := 4) dX3_readQuestion_131 rfl ?_
            refine go_getR (x := 1) dX3_readQuestion_132 f3_11 sh4 (fun _ _ => rfl) (rf4_0 hR) ?_
            refine go_iconst (v := (-1)) dX3_readQuestion_135 rfl ?_
            refine gvI1 MX5_takeSign dX3_readQuestion_136 lX3_59 kX5_takeSign vX5_takeSign sh1 (by decide) rfl (Nat.le_of_ble_eq_true rfl) vc ?_
            intro v12 h12 vc
            obtain ⟨hR12, vc⟩ := vc
            replace hR := hR12.trans hR
            refine go_if_eq 146 dX3_readQuestion_139 rfl (fun q => ?_) (fun q => ?_)
            · replace vc := vc.1 q
              refine go_iconst (v := (-1)) dX3_readQuestion_146 rfl ?_
              exact go_iret dX3_readQuestion_147 rfl vc rfl (Nat.le_refl _) (Nat.le_refl _)
            · replace vc := vc.2 q
              refine go_iload_n (x := (h1.1 1 6)) dX3_readQuestion_142 rfl ?_
              refine go_goto 147 dX3_readQuestion_143 rfl ?_
              exact go_iret dX3_readQuestion_147 rfl vc rfl (Nat.le_refl _) (Nat.le_refl _)
        · replace vc := vc.2 q
          refine go_iload_n (x := (h1.1 1 6)) dX3_readQuestion_66 rfl ?_
          refine go_bipush (v := 36) dX3_readQuestion_67 rfl ?_
          refine go_icmp_ne 76 dX3_readQuestion_69 rfl (fun q => ?_) (fun q => ?_)
          · replace vc := vc.1 q
            refine go_iconst (v := 0) dX3_readQuestion_76 rfl ?_
            refine go_istore_n dX3_readQuestion_77 (Nat.le_of_ble_eq_true rfl) ?_
            show gg p l e s m args below meth c G (d + 1) MX3_readQuestion Q 78 [some (.ref 4), some (.ref cc), some (.int (h1.1 1 6)), some (.int 0), none] [] h1
            refine go_aload_n (x := 4) dX3_readQuestion_78 rfl ?_
            refine go_aload_n (x := cc) dX3_readQuestion_79 rfl ?_
            refine go_putR (x := cc) dX3_readQuestion_80 f3_15 sh4 rfl rfl ?_
            replace hR := sRF_cd (x := (some cc)) hR
            refine go_aload_n (x := 4) dX3_readQuestion_83 rfl ?_
            refine go_ldc2 (v := 252121096) dX3_readQuestion_84 nX3_54 ?_
            refine go_putL dX3_readQuestion_87 f3_19 sh4 rfl rfl ?_
            refine go_aload_n (x := 4) dX3_readQuestion_90 rfl ?_
            refine go_getR (x := 1) dX3_readQuestion_91 f3_11 sh4 (fun _ _ => rfl) (rf4_0 hR) ?_
            refine gvV0 MX5_move dX3_readQuestion_94 lX3_23 kX5_move vX5_move sh1 (by decide) rfl (Nat.le_of_ble_eq_true rfl) vc ?_
            intro h13 vc
            obtain ⟨hR13, vc⟩ := vc
            replace hR := hR13.trans hR
            refine go_aload_n (x := cc) dX3_readQuestion_97 rfl ?_
            refine go_iconst (v := 0) dX3_readQuestion_98 rfl ?_
            refine gvV1 MX0_open dX3_readQuestion_99 lX3_28 kX0_open vX0_open (scx hcc) (by decide) rfl (Nat.le_of_ble_eq_true rfl) vc ?_
            intro h14 vc
            obtain ⟨hR14, vc⟩ := vc
            replace hR := hR14.trans hR
            refine go_iload_n (x := 0) dX3_readQuestion_102 rfl ?_
            refine go_if_eq 114 dX3_readQuestion_103 rfl (fun q => ?_) (fun q => absurd q (by decide))
            refine go_aload_n (x := 4) dX3_readQuestion_114 rfl ?_
            refine go_iconst (v := 0) dX3_readQuestion_115 rfl ?_
            refine gvI1 MX3_readSum dX3_readQuestion_116 lX3_34 kX3_readSum vX3_readSum sh4 (by decide) rfl (Nat.le_of_ble_eq_true rfl) vc ?_
            intro v15 h15 vc
            obtain ⟨hR15, vc⟩ := vc
            replace hR := hR15.trans hR
            refine go_istore dX3_readQuestion_119 (Nat.le_of_ble_eq_true rfl) ?_
            show gg p l e s m args below meth c G (d + 1) MX3_readQuestion Q 121 [some (.ref 4), some (.ref cc), some (.int (h1.1 1 6)), some (.int 0), some (.int v15)] [] h15
            refine go_aload_n (x := cc) dX3_readQuestion_121 rfl ?_
            refine go_iconst (v := 0) dX3_readQuestion_122 rfl ?_
            refine gvV1 MX0_close dX3_readQuestion_123 lX3_38 kX0_close vX0_close (scx hcc) (by decide) rfl (Nat.le_of_ble_eq_true rfl) vc ?_
            intro h16 vc
            obtain ⟨hR16, vc⟩ := vc
            replace hR := hR16.trans hR
            refine go_iload (x := v15) dX3_readQuestion_126 rfl ?_
            refine go_if_eq 146 dX3_readQuestion_128 rfl (fun q => ?_) (fun q => ?_)
            · replace vc := vc.1 q
              refine go_iconst (v := (-1)) dX3_readQuestion_146 rfl ?_
              exact go_iret dX3_readQuestion_147 rfl vc rfl (Nat.le_refl _) (Nat.le_refl _)
            · replace vc := vc.2 q
              refine go_aload_n (x := 4) dX3_readQuestion_131 rfl ?_
              refine go_getR (x := 1) dX3_readQuestion_132 f3_11 sh4 (fun _ _ => rfl) (rf4_0 hR) ?_
              refine go_iconst (v := (-1)) dX3_readQuestion_135 rfl ?_
              refine gvI1 MX5_takeSign dX3_readQuestion_136 lX3_59 kX5_takeSign vX5_takeSign sh1 (by decide) rfl (Nat.le_of_ble_eq_true rfl) vc ?_
              intro v17 h17 vc
              obtain ⟨hR17, vc⟩ := vc
              replace hR := hR17.trans hR
              refine go_if_eq 146 dX3_readQuestion_139 rfl (fun q => ?_) (fun q => ?_)
              · replace vc := vc.1 q
                refine go_iconst (v := (-1)) dX3_readQuestion_146 rfl ?_
                exact go_iret dX3_readQuestion_147 rfl vc rfl (Nat.le_refl _) (Nat.le_refl _)
              · replace vc := vc.2 q
                refine go_iload_n (x := (h1.1 1 6)) dX3_readQuestion_142 rfl ?_
                refine go_goto 147 dX3_readQuestion_143 rfl ?_
                exact go_iret dX3_readQuestion_147 rfl vc rfl (Nat.le_refl _) (Nat.le_refl _)
          · replace vc := vc.2 q
            refine go_iconst (v := 1) dX3_readQuestion_72 rfl ?_
            refine go_goto 77 dX3_readQuestion_73 rfl ?_
            refine go_istore_n dX3_readQuestion_77 (Nat.le_of_ble_eq_true rfl) ?_
            show gg p l e s m args below meth c G (d + 1) MX3_readQuestion Q 78 [some (.ref 4), some (.ref cc), some (.int (h1.1 1 6)), some (.int 1), none] [] h1
            refine go_aload_n (x := 4) dX3_readQuestion_78 rfl ?_
            refine go_aload_n (x := cc) dX3_readQuestion_79 rfl ?_
            refine go_putR (x := cc) dX3_readQuestion_80 f3_15 sh4 rfl rfl ?_
            replace hR := sRF_cd (x := (some cc)) hR
            refine go_aload_n (x := 4) dX3_readQuestion_83 rfl ?_
            refine go_ldc2 (v := 252121096) dX3_readQuestion_84 nX3_54 ?_
            refine go_putL dX3_readQuestion_87 f3_19 sh4 rfl rfl ?_
            refine go_aload_n (x := 4) dX3_readQuestion_90 rfl ?_
            refine go_getR (x := 1) dX3_readQuestion_91 f3_11 sh4 (fun _ _ => rfl) (rf4_0 hR) ?_
            refine gvV0 MX5_move dX3_readQuestion_94 lX3_23 kX5_move vX5_move sh1 (by decide) rfl (Nat.le_of_ble_eq_true rfl) vc ?_
            intro h18 vc
            obtain ⟨hR18, vc⟩ := vc
            replace hR := hR18.trans hR
            refine go_aload_n (x := cc) dX3_readQuestion_97 rfl ?_
            refine go_iconst (v := 0) dX3_readQuestion_98 rfl ?_
            refine gvV1 MX0_open dX3_readQuestion_99 lX3_28 kX0_open vX0_open (scx hcc) (by decide) rfl (Nat.le_of_ble_eq_true rfl) vc ?_
            intro h19 vc
            obtain ⟨hR19, vc⟩ := vc
            replace hR := hR19.trans hR
            refine go_iload_n (x := 1) dX3_readQuestion_102 rfl ?_
            refine go_if_eq 114 dX3_readQuestion_103 rfl (fun q => absurd q (by decide)) (fun q => ?_)
            refine go_aload_n (x := 4) dX3_readQuestion_106 rfl ?_
            refine go_iconst (v := 0) dX3_readQuestion_107 rfl ?_
            refine gvI1 MX3_readTest dX3_readQuestion_108 lX3_56 kX3_readTest vX3_readTest sh4 (by decide) rfl (Nat.le_of_ble_eq_true rfl) vc ?_
            intro v20 h20 vc
            obtain ⟨hR20, vc⟩ := vc
            replace hR := hR20.trans hR
            refine go_goto 119 dX3_readQuestion_111 rfl ?_
            refine go_istore dX3_readQuestion_119 (Nat.le_of_ble_eq_true rfl) ?_
            show gg p l e s m args below meth c G (d + 1) MX3_readQuestion Q 121 [some (.ref 4), some (.ref cc), some (.int (h1.1 1 6)), some (.int 1), some (.int v20)] [] h20
            refine go_aload_n (x := cc) dX3_readQuestion_121 rfl ?_
            refine go_iconst (v := 0) dX3_readQuestion_122 rfl ?_
            refine gvV1 MX0_close dX3_readQuestion_123 lX3_38 kX0_close vX0_close (scx hcc) (by decide) rfl (Nat.le_of_ble_eq_true rfl) vc ?_
            intro h21 vc
            obtain ⟨hR21, vc⟩ := vc
            replace hR := hR21.trans hR
            refine go_iload (x := v20) dX3_readQuestion_126 rfl ?_
            refine go_if_eq 146 dX3_readQuestion_128 rfl (fun q => ?_) (fun q => ?_)
            · replace vc := vc.1 q
              refine go_iconst (v := (-1)) dX3_readQuestion_146 rfl ?_
              exact go_iret dX3_readQuestion_147 rfl vc rfl (Nat.le_refl _) (Nat.le_refl _)
            · replace vc := vc.2 q
              refine go_aload_n (x := 4) dX3_readQuestion_131 rfl ?_
              refine go_getR (x := 1) dX3_readQuestion_132 f3_11 sh4 (fun _ _ => rfl) (rf4_0 hR) ?_
              refine go_iconst (v := (-1)) dX3_readQuestion_135 rfl ?_
              refine gvI1 MX5_takeSign dX3_readQuestion_136 lX3_59 kX5_takeSign vX5_takeSign sh1 (by decide) rfl (Nat.le_of_ble_eq_true rfl) vc ?_
              intro v22 h22 vc
              obtain ⟨hR22, vc⟩ := vc
              replace hR := hR22.trans hR
              refine go_if_eq 146 dX3_readQuestion_139 rfl (fun q => ?_) (fun q => ?_)
              · replace vc := vc.1 q
                refine go_iconst (v := (-1)) dX3_readQuestion_146 rfl ?_
                exact go_iret dX3_readQuestion_147 rfl vc rfl (Nat.le_refl _) (Nat.le_refl _)
              · replace vc := vc.2 q
                refine go_iload_n (x := (h1.1 1 6)) dX3_readQuestion_142 rfl ?_
                refine go_goto 147 dX3_readQuestion_143 rfl ?_
                exact go_iret dX3_readQuestion_147 rfl vc rfl (Nat.le_refl _) (Nat.le_refl _)
    · replace vc := vc.2 q
      refine go_aload_n (x := 4) dX3_readQuestion_35 rfl ?_
      refine go_getR (x := 1) dX3_readQuestion_36 f3_11 sh4 (fun _ _ => rfl) (rf4_0 hR) ?_
      refine go_iconst (v := 1) dX3_readQuestion_39 rfl ?_
      refine gvI1 MX5_failHere dX3_readQuestion_40 lX3_51 kX5_failHere vX5_failHere sh1 (by decide) rfl (Nat.le_of_ble_eq_true rfl) vc ?_
      intro v23 h23 vc
      obtain ⟨hR23, vc⟩ := vc
      replace hR := hR23.trans hR
      refine go_pop dX3_readQuestion_43 rfl ?_
      refine go_iconst (v := (-1)) dX3_readQuestion_44 rfl ?_
      exact go_iret dX3_readQuestion_45 rfl vc rfl (Nat.le_refl _) (Nat.le_refl _)
set_option maxRecDepth 20000 in
theorem wX3_readTest_0 {p : Program} {l : Launch} {e : Env} {s : State} {m : MethodId} {args : Array Value} {below : List Frame} {meth : Method} {c : Code} {G : gG} {d : Nat} {Q : Option Value → gH → Prop} {h : gH} {lk sp : Nat} {cd : Option Nat} {a1 : Int32} (hR : h.2.2 = gRF lk sp cd) (hlk : lk = 30 ∨ lk = 67) (hsp : sp = 30 ∨ sp = 67)  (vc : gC l G d MX3_readBoth [.ref 4, .int a1] h (rI fun v1 h1 => h1.2.2 = (h).2.2 ∧ gg p l e s m args below meth c G (d + 1) MX3_readTest Q 8 [some (.ref 4), some (.int a1), some (.int v1), some (.int 0)] [] h1)) : gg p l e s m args below meth c G (d + 1) MX3_readTest Q 0 [some (.ref 4), some (.int a1), none, none] [] h := by
  refine go_aload_n (x := 4) dX3_readTest_0 rfl ?_
  refine go_iload_n (x := a1) dX3_readTest_1 rfl ?_
  refine gvI1 MX3_readBoth dX3_readTest_2 lX3_62 kX3_readBoth vX3_readBoth sh4 (by decide) rfl (Nat.le_of_ble_eq_true rfl) vc ?_
  intro v1 h1 vc
  obtain ⟨hR1, vc⟩ := vc
  replace hR := hR1.trans hR
  refine go_istore_n dX3_readTest_5 (Nat.le_of_ble_eq_true rfl) ?_
  show gg p l e s m args below meth c G (d + 1) MX3_readTest Q 6 [some (.ref 4), some (.int a1), some (.int v1), none] [] h1
  refine go_iconst (v := 0) dX3_readTest_6 rfl ?_
  refine go_istore_n dX3_readTest_7 (Nat.le_of_ble_eq_true rfl) ?_
  show gg p l e s m args below meth c G (d + 1) MX3_readTest Q 8 [some (.ref 4), some (.int a1), some (.int v1), some (.int 0)] [] h1
  exact vc
set_option maxRecDepth 20000 in
theorem wX3_readTest_8 {p : Program} {l : Launch} {e : Env} {s : State} {m : MethodId} {args : Array Value} {below : List Frame} {meth : Method} {c : Code} {G : gG} {d : Nat} {Q : Option Value → gH → Prop} {h : gH} {lk sp : Nat} {cd : Option Nat} {x1 : Int32} {x2 : Int32} {x3 : Int32} (hR : h.2.2 = gRF lk sp cd) (hlk : lk = 30 ∨ lk = 67) (hsp : sp = 30 ∨ sp = 67)  (vc : ((1600 ≤ x3 → ((x2 = 0 ∨ x2 = 1) ∧ Q (some (.int x2)) h)) ∧ (¬ 1600 ≤ x3 → ((x2 = 0 → ((x2 = 0 ∨ x2 = 1) ∧ Q (some (.int x2)) h)) ∧ (¬ x2 = 0 → gC l G d MX5_isWord [.ref 1, .int 28] h (rI fun v1 h1 => h1.2.2 = (h).2.2 ∧ ((v1 = 0 → ((x2 = 0 ∨ x2 = 1) ∧ Q (some (.int x2)) h1)) ∧ (¬ v1 = 0 → gC l G d MX5_move [.ref 1] h1 (rV fun h2 => h2.2.2 = (h1).2.2 ∧ gC l G d MX3_readBoth [.ref 4, .int x1] h2 (rI fun v3 h3 => h3.2.2 = (h2).2.2 ∧ gC l G d MX3_put [.ref 4, .int 28] h3 (rV fun h4 => h4.2.2 = (h3).2.2 ∧ gg p l e s m args below meth c G (d + 1) MX3_readTest Q 8 [some (.ref 4), some (.int x1), some (.int v3), some (.int (x3 + 1))] [] h4))))))))))) : gg p l e s m args below meth c G (d + 1) MX3_readTest Q 8 [some (.ref 4), some (.int x1), some (.int x2), some (.int x3)] [] h := by
  refine go_iload_n (x := x3) dX3_readTest_8 rfl ?_
  refine go_sipush (v := 1600) dX3_readTest_9 rfl ?_
  refine go_icmp_ge 56 dX3_readTest_12 rfl (fun q => ?_) (fun q => ?_)
  · replace vc := vc.1 q
    refine go_iload_n (x := x2) dX3_readTest_56 rfl ?_
    exact go_zret dX3_readTest_57 rfl vc.1 vc.2 rfl (Nat.le_refl _) (Nat.le_refl _)
  · replace vc := vc.2 q
    refine go_iload_n (x := x2) dX3_readTest_15 rfl ?_
    refine go_if_eq 56 dX3_readTest_16 rfl (fun q => ?_) (fun q => ?_)
    · replace vc := vc.1 q
      refine go_iload_n (x := x2) dX3_readTest_56 rfl ?_
      exact go_zret dX3_readTest_57 rfl vc.1 vc.2 rfl (Nat.le_refl _) (Nat.le_refl _)
    · replace vc := vc.2 q
      refine go_aload_n (x := 4) dX3_readTest_19 rfl ?_
      refine go_getR (x := 1) dX3_readTest_20 f3_11 sh4 (fun _ _ => rfl) (rf4_0 hR) ?_
      refine go_bipush (v := 28) dX3_readTest_23 rfl ?_
      refine gvI1 MX5_isWord dX3_readTest_25 lX3_65 kX5_isWord vX5_isWord sh1 (by decide) rfl (Nat.le_of_ble_eq_true rfl) vc ?_
      intro v1 h1 vc
      obtain ⟨hR1, vc⟩ := vc
      replace hR := hR1.trans hR
      refine go_if_eq 56 dX3_readTest_28 rfl (fun q => ?_) (fun q => ?_)
      · replace vc := vc.1 q
        refine go_iload_n (x := x2) dX3_readTest_56 rfl ?_
        exact go_zret dX3_readTest_57 rfl vc.1 vc.2 rfl (Nat.le_refl _) (Nat.le_refl _)
      · replace vc := vc.2 q
        refine go_aload_n (x := 4) dX3_readTest_31 rfl ?_
        refine go_getR (x := 1) dX3_readTest_32 f3_11 sh4 (fun _ _ => rfl) (rf4_0 hR) ?_
        refine gvV0 MX5_move dX3_readTest_35 lX3_23 kX5_move vX5_move sh1 (by decide) rfl (Nat.le_of_ble_eq_true rfl) vc ?_
        intro h2 vc
        obtain ⟨hR2, vc⟩ := vc
        replace hR := hR2.trans hR
        refine go_aload_n (x := 4) dX3_readTest_38 rfl ?_
        refine go_iload_n (x := x1) dX3_readTest_39 rfl ?_
        refine gvI1 MX3_readBoth dX3_readTest_40 lX3_62 kX3_readBoth vX3_readBoth sh4 (by decide) rfl (Nat.le_of_ble_eq_true rfl) vc ?_
        intro v3 h3 vc
        obtain ⟨hR3, vc⟩ := vc
        replace hR := hR3.trans hR
        refine go_istore_n dX3_readTest_43 (Nat.le_of_ble_eq_true rfl) ?_
        show gg p l e s m args below meth c G (d + 1) MX3_readTest Q 44 [some (.ref 4), some (.int x1), some (.int v3), some (.int x3)] [] h3
        refine go_aload_n (x := 4) dX3_readTest_44 rfl ?_
        refine go_bipush (v := 28) dX3_readTest_45 rfl ?_
        refine gvV1 MX3_put dX3_readTest_47 lX3_68 kX3_put vX3_put sh4 (by decide) rfl (Nat.le_of_ble_eq_true rfl) vc ?_
        intro h4 vc
        obtain ⟨hR4, vc⟩ := vc
        replace hR := hR4.trans hR
        refine go_iinc (x := x3) dX3_readTest_50 rfl ?_
        show gg p l e s m args below meth c G (d + 1) MX3_readTest Q 53 [some (.ref 4), some (.int x1), some (.int v3), some (.int (x3 + 1))] [] h4
        refine go_goto 8 dX3_readTest_53 rfl ?_
        exact vc
set_option maxRecDepth 20000 in
theorem wX3_readBoth_0 {p : Program} {l : Launch} {e : Env} {s : State} {m : MethodId} {args : Array Value} {below : List Frame} {meth : Method} {c : Code} {G : gG} {d : Nat} {Q : Option Value → gH → Prop} {h : gH} {lk sp : Nat} {cd : Option Nat} {a1 : Int32} (hR : h.2.2 = gRF lk sp cd) (hlk : lk = 30 ∨ lk = 67) (hsp : sp = 30 ∨ sp = 67)  (vc : gC l G d MX3_readFact [.ref 4, .int a1] h (rI fun v1 h1 => h1.2.2 = (h).2.2 ∧ gg p l e s m args below meth c G (d + 1) MX3_readBoth Q 8 [some (.ref 4), some (.int a1), some (.int v1), some (.int 0)] [] h1)) : gg p l e s m args below meth c G (d + 1) MX3_readBoth Q 0 [some (.ref 4), some (.int a1), none, none] [] h := by
  refine go_aload_n (x := 4) dX3_readBoth_0 rfl ?_
  refine go_iload_n (x := a1) dX3_readBoth_1 rfl ?_
  refine gvI1 MX3_readFact dX3_readBoth_2 lX3_71 kX3_readFact vX3_readFact sh4 (by decide) rfl (Nat.le_of_ble_eq_true rfl) vc ?_
  intro v1 h1 vc
  obtain ⟨hR1, vc⟩ := vc
  replace hR := hR1.trans hR
  refine go_istore_n dX3_readBoth_5 (Nat.le_of_ble_eq_true rfl) ?_
  show gg p l e s m args below meth c G (d + 1) MX3_readBoth Q 6 [some (.ref 4), some (.int a1), some (.int v1), none] [] h1
  refine go_iconst (v := 0) dX3_readBoth_6 rfl ?_
  refine go_istore_n dX3_readBoth_7 (Nat.le_of_ble_eq_true rfl) ?_
  show gg p l e s m args below meth c G (d + 1) MX3_readBoth Q 8 [some (.ref 4), some (.int a1), some (.int v1), some (.int 0)] [] h1
  exact vc
set_option maxRecDepth 20000 in
theorem wX3_readBoth_8 {p : Program} {l : Launch} {e : Env} {s : State} {m : MethodId} {args : Array Value} {below : List Frame} {meth : Method} {c : Code} {G : gG} {d : Nat} {Q : Option Value → gH → Prop} {h : gH} {lk sp : Nat} {cd : Option Nat} {x1 : Int32} {x2 : Int32} {x3 : Int32} (hR : h.2.2 = gRF lk sp cd) (hlk : lk = 30 ∨ lk = 67) (hsp : sp = 30 ∨ sp = 67)  (vc : ((1600 ≤ x3 → ((x2 = 0 ∨ x2 = 1) ∧ Q (some (.int x2)) h)) ∧ (¬ 1600 ≤ x3 → ((x2 = 0 → ((x2 = 0 ∨ x2 = 1) ∧ Q (some (.int x2)) h)) ∧ (¬ x2 = 0 → gC l G d MX5_isWord [.ref 1, .int 29] h (rI fun v1 h1 => h1.2.2 = (h).2.2 ∧ ((v1 = 0 → ((x2 = 0 ∨ x2 = 1) ∧ Q (some (.int x2)) h1)) ∧ (¬ v1 = 0 → gC l G d MX5_move [.ref 1] h1 (rV fun h2 => h2.2.2 = (h1).2.2 ∧ gC l G d MX3_readFact [.ref 4, .int x1] h2 (rI fun v3 h3 => h3.2.2 = (h2).2.2 ∧ gC l G d MX3_put [.ref 4, .int 29] h3 (rV fun h4 => h4.2.2 = (h3).2.2 ∧ gg p l e s m args below meth c G (d + 1) MX3_readBoth Q 8 [some (.ref 4), some (.int x1), some (.int v3), some (.int (x3 + 1))] [] h4))))))))))) : gg p l e s m args below meth c G (d + 1) MX3_readBoth Q 8 [some (.ref 4), some (.int x1), some (.int x2), some (.int x3)] [] h := by
  refine go_iload_n (x := x3) dX3_readBoth_8 rfl ?_
  refine go_sipush (v := 1600) dX3_readBoth_9 rfl ?_
  refine go_icmp_ge 56 dX3_readBoth_12 rfl (fun q => ?_) (fun q => ?_)
  · replace vc := vc.1 q
    refine go_iload_n (x := x2) dX3_readBoth_56 rfl ?_
    exact go_zret dX3_readBoth_57 rfl vc.1 vc.2 rfl (Nat.le_refl _) (Nat.le_refl _)
  · replace vc := vc.2 q
    refine go_iload_n (x := x2) dX3_readBoth_15 rfl ?_
    refine go_if_eq 56 dX3_readBoth_16 rfl (fun q => ?_) (fun q => ?_)
    · replace vc := vc.1 q
      refine go_iload_n (x := x2) dX3_readBoth_56 rfl ?_
      exact go_zret dX3_readBoth_57 rfl vc.1 vc.2 rfl (Nat.le_refl _) (Nat.le_refl _)
    · replace vc := vc.2 q
      refine go_aload_n (x := 4) dX3_readBoth_19 rfl ?_
      refine go_getR (x := 1) dX3_readBoth_20 f3_11 sh4 (fun _ _ => rfl) (rf4_0 hR) ?_
      refine go_bipush (v := 29) dX3_readBoth_23 rfl ?_
      refine gvI1 MX5_isWord dX3_readBoth_25 lX3_65 kX5_isWord vX5_isWord sh1 (by decide) rfl (Nat.le_of_ble_eq_true rfl) vc ?_
      intro v1 h1 vc
      obtain ⟨hR1, vc⟩ := vc
      replace hR := hR1.trans hR
      refine go_if_eq 56 dX3_readBoth_28 rfl (fun q => ?_) (fun q => ?_)
      · replace vc := vc.1 q
        refine go_iload_n (x := x2) dX3_readBoth_56 rfl ?_
        exact go_zret dX3_readBoth_57 rfl vc.1 vc.2 rfl (Nat.le_refl _) (Nat.le_refl _)
      · replace vc := vc.2 q
        refine go_aload_n (x := 4) dX3_readBoth_31 rfl ?_
        refine go_getR (x := 1) dX3_readBoth_32 f3_11 sh4 (fun _ _ => rfl) (rf4_0 hR) ?_
        refine gvV0 MX5_move dX3_readBoth_35 lX3_23 kX5_move vX5_move sh1 (by decide) rfl (Nat.le_of_ble_eq_true rfl) vc ?_
        intro h2 vc
        obtain ⟨hR2, vc⟩ := vc
        replace hR := hR2.trans hR
        refine go_aload_n (x := 4) dX3_readBoth_38 rfl ?_
        refine go_iload_n (x := x1) dX3_readBoth_39 rfl ?_
        refine gvI1 MX3_readFact dX3_readBoth_40 lX3_71 kX3_readFact vX3_readFact sh4 (by decide) rfl (Nat.le_of_ble_eq_true rfl) vc ?_
        intro v3 h3 vc
        obtain ⟨hR3, vc⟩ := vc
        replace hR := hR3.trans hR
        refine go_istore_n dX3_readBoth_43 (Nat.le_of_ble_eq_true rfl) ?_
        show gg p l e s m args below meth c G (d + 1) MX3_readBoth Q 44 [some (.ref 4), some (.int x1), some (.int v3), some (.int x3)] [] h3
        refine go_aload_n (x := 4) dX3_readBoth_44 rfl ?_
        refine go_bipush (v := 29) dX3_readBoth_45 rfl ?_
        refine gvV1 MX3_put dX3_readBoth_47 lX3_68 kX3_put vX3_put sh4 (by decide) rfl (Nat.le_of_ble_eq_true rfl) vc ?_
        intro h4 vc
        obtain ⟨hR4, vc⟩ := vc
        replace hR := hR4.trans hR
        refine go_iinc (x := x3) dX3_readBoth_50 rfl ?_
        show gg p l e s m args below meth c G (d + 1) MX3_readBoth Q 53 [some (.ref 4), some (.int x1), some (.int v3), some (.int (x3 + 1))] [] h4
        refine go_goto 8 dX3_readBoth_53 rfl ?_
        exact vc
