set_option maxRecDepth 20000 in
theorem wX1_canTry_0 {p : Program} {l : Launch} {e : Env} {s : State} {m : MethodId} {args : Array Value} {below : List Frame} {meth : Method} {c : Code} {G : gG} {d : Nat} {Q : Option Value → gH → Prop} {h : gH} {lk sp : Nat} {cd : Option Nat} {a1 : Int32} {a2 : Int32} (hR : h.2.2 = gRF lk sp cd) (hlk : lk = 30 ∨ lk = 67) (hsp : sp = 30 ∨ sp = 67)  (vc : ((a1 ≤ 0 → Q (some (.int 0)) h) ∧ (¬ a1 ≤ 0 → ((a1 < (1 <<< ((if (h.1 lk 13) < 6 then (h.1 lk 13) else 6) &&& 31)) → gg p l e s m args below meth c G (d + 1) MX1_canTry Q 29 [some (.ref 53), some (.int a1), some (.int a2), some (.int 0), none] [] h) ∧ (¬ a1 < (1 <<< ((if (h.1 lk 13) < 6 then (h.1 lk 13) else 6) &&& 31)) → Q (some (.int 0)) h))))) : gg p l e s m args below meth c G (d + 1) MX1_canTry Q 0 [some (.ref 53), some (.int a1), some (.int a2), none, none] [] h := by
  refine go_iload_n (x := a1) dX1_canTry_0 rfl ?_
  refine go_if_le 25 dX1_canTry_1 rfl (fun q => ?_) (fun q => ?_)
  · replace vc := vc.1 q
    refine go_iconst (v := 0) dX1_canTry_25 rfl ?_
    exact go_zret dX1_canTry_26 rfl (by decide) vc rfl (Nat.le_refl _) (Nat.le_refl _)
  · replace vc := vc.2 q
    refine go_iload_n (x := a1) dX1_canTry_4 rfl ?_
    refine go_iconst (v := 1) dX1_canTry_5 rfl ?_
    refine go_bipush (v := 6) dX1_canTry_6 rfl ?_
    refine go_aload_n (x := 53) dX1_canTry_8 rfl ?_
    refine go_getR (x := 29) dX1_canTry_9 f1_24 sh53 (fun _ _ => rfl) (rf53_0 hR) ?_
    refine go_getR (x := lk) dX1_canTry_12 f1_35 sh29 (fun _ _ => rfl) (rf29_2 hR) ?_
    refine go_getI' (v := (h.1 lk 13)) dX1_canTry_15 f1_41 (slx hlk) (fun _ _ => rfl) rfl ?_
    refine go_min dX1_canTry_18 lX1_46 (Nat.le_of_ble_eq_true rfl) ?_
    refine go_ishl dX1_canTry_21 ?_
    refine go_icmp_lt 27 dX1_canTry_22 rfl (fun q => ?_) (fun q => ?_)
    · replace vc := vc.1 q
      refine go_iconst (v := 0) dX1_canTry_27 rfl ?_
      refine go_istore_n dX1_canTry_28 (Nat.le_of_ble_eq_true rfl) ?_
      show gg p l e s m args below meth c G (d + 1) MX1_canTry Q 29 [some (.ref 53), some (.int a1), some (.int a2), some (.int 0), none] [] h
      exact vc
    · replace vc := vc.2 q
      refine go_iconst (v := 0) dX1_canTry_25 rfl ?_
      exact go_zret dX1_canTry_26 rfl (by decide) vc rfl (Nat.le_refl _) (Nat.le_refl _)
set_option maxRecDepth 20000 in
theorem wX1_canTry_29 {p : Program} {l : Launch} {e : Env} {s : State} {m : MethodId} {args : Array Value} {below : List Frame} {meth : Method} {c : Code} {G : gG} {d : Nat} {Q : Option Value → gH → Prop} {h : gH} {lk sp : Nat} {cd : Option Nat} {x1 : Int32} {x2 : Int32} {x3 : Int32} (hR : h.2.2 = gRF lk sp cd) (hlk : lk = 30 ∨ lk = 67) (hsp : sp = 30 ∨ sp = 67)  (vc : ((6 ≤ x3 → Q (some (.int 0)) h) ∧ (¬ 6 ≤ x3 → gC l G d MX2_cellOf [.ref 6, .int x3] h (rI fun v1 h1 => h1.2.2 = (h).2.2 ∧ ((¬ ((x1 >>> (x3 &&& 31)) &&& 1) = 1 → gg p l e s m args below meth c G (d + 1) MX1_canTry Q 29 [some (.ref 53), some (.int x1), some (.int x2), some (.int (x3 + 1)), none] [] h1) ∧ (((x1 >>> (x3 &&& 31)) &&& 1) = 1 → gC l G d MX2_bitsIn [.ref 6, .int v1] h1 (rI fun v2 h2 => h2.2.2 = (h1).2.2 ∧ ((¬ (v2 &&& x1) = x1 → Q (some (.int 0)) h2) ∧ ((v2 &&& x1) = x1 → gC l G d MX4_isBeside [.ref lk, .int v1, .int x2] h2 (rI fun v3 h3 => h3.2.2 = (h2).2.2 ∧ ((v3 = 0 → Q (some (.int 0)) h3) ∧ (¬ v3 = 0 → Q (some (.int 1)) h3)))))))))))) : gg p l e s m args below meth c G (d + 1) MX1_canTry Q 29 [some (.ref 53), some (.int x1), some (.int x2), some (.int x3), none] [] h := by
  refine go_iload_n (x := x3) dX1_canTry_29 rfl ?_
  refine go_bipush (v := 6) dX1_canTry_30 rfl ?_
  refine go_icmp_ge 103 dX1_canTry_32 rfl (fun q => ?_) (fun q => ?_)
  · replace vc := vc.1 q
    refine go_iconst (v := 0) dX1_canTry_103 rfl ?_
    exact go_zret dX1_canTry_104 rfl (by decide) vc rfl (Nat.le_refl _) (Nat.le_refl _)
  · replace vc := vc.2 q
    refine go_aload_n (x := 53) dX1_canTry_35 rfl ?_
    refine go_getR (x := 29) dX1_canTry_36 f1_24 sh53 (fun _ _ => rfl) (rf53_0 hR) ?_
    refine go_getR (x := 6) dX1_canTry_39 f1_52 sh29 (fun _ _ => rfl) (rf29_0 hR) ?_
    refine go_iload_n (x := x3) dX1_canTry_42 rfl ?_
    refine gvI1 MX2_cellOf dX1_canTry_43 lX1_56 kX2_cellOf vX2_cellOf sh6 (by decide) rfl (Nat.le_of_ble_eq_true rfl) vc ?_
    intro v1 h1 vc
    obtain ⟨hR1, vc⟩ := vc
    replace hR := hR1.trans hR
    refine go_istore dX1_canTry_46 (Nat.le_of_ble_eq_true rfl) ?_
    show gg p l e s m args below meth c G (d + 1) MX1_canTry Q 48 [some (.ref 53), some (.int x1), some (.int x2), some (.int x3), some (.int v1)] [] h1
    refine go_iload_n (x := x1) dX1_canTry_48 rfl ?_
    refine go_iload_n (x := x3) dX1_canTry_49 rfl ?_
    refine go_ishr dX1_canTry_50 ?_
    refine go_iconst (v := 1) dX1_canTry_51 rfl ?_
    refine go_iand dX1_canTry_52 ?_
    refine go_iconst (v := 1) dX1_canTry_53 rfl ?_
    refine go_icmp_ne 97 dX1_canTry_54 rfl (fun q => ?_) (fun q => ?_)
    · replace vc := vc.1 q
      refine go_iinc (x := x3) dX1_canTry_97 rfl ?_
      show gg p l e s m args below meth c G (d + 1) MX1_canTry Q 100 [some (.ref 53), some (.int x1), some (.int x2), some (.int (x3 + 1)), some (.int v1)] [] h1
      refine go_goto 29 dX1_canTry_100 rfl ?_
      refine go_weak (ls' := [some (.ref 53), some (.int x1), some (.int x2), some (.int (x3 + 1)), none]) ?_ vc
      exact (⟨rfl, ⟨rfl, ⟨rfl, ⟨rfl, trivial⟩⟩⟩⟩)
    · replace vc := vc.2 q
      refine go_aload_n (x := 53) dX1_canTry_57 rfl ?_
      refine go_getR (x := 29) dX1_canTry_58 f1_24 sh53 (fun _ _ => rfl) (rf53_0 hR) ?_
      refine go_getR (x := 6) dX1_canTry_61 f1_52 sh29 (fun _ _ => rfl) (rf29_0 hR) ?_
      refine go_iload (x := v1) dX1_canTry_64 rfl ?_
      refine gvI1 MX2_bitsIn dX1_canTry_66 lX1_62 kX2_bitsIn vX2_bitsIn sh6 (by decide) rfl (Nat.le_of_ble_eq_true rfl) vc ?_
      intro v2 h2 vc
      obtain ⟨hR2, vc⟩ := vc
      replace hR := hR2.trans hR
      refine go_iload_n (x := x1) dX1_canTry_69 rfl ?_
      refine go_iand dX1_canTry_70 ?_
      refine go_iload_n (x := x1) dX1_canTry_71 rfl ?_
      refine go_icmp_ne 95 dX1_canTry_72 rfl (fun q => ?_) (fun q => ?_)
      · replace vc := vc.1 q
        refine go_iconst (v := 0) dX1_canTry_95 rfl ?_
        exact go_zret dX1_canTry_96 rfl (by decide) vc rfl (Nat.le_refl _) (Nat.le_refl _)
      · replace vc := vc.2 q
        refine go_aload_n (x := 53) dX1_canTry_75 rfl ?_
        refine go_getR (x := 29) dX1_canTry_76 f1_24 sh53 (fun _ _ => rfl) (rf53_0 hR) ?_
        refine go_getR (x := lk) dX1_canTry_79 f1_35 sh29 (fun _ _ => rfl) (rf29_2 hR) ?_
        refine go_iload (x := v1) dX1_canTry_82 rfl ?_
        refine go_iload_n (x := x2) dX1_canTry_84 rfl ?_
        refine gvI2 MX4_isBeside dX1_canTry_85 lX1_65 kX4_isBeside vX4_isBeside (slx hlk) (by decide) rfl (Nat.le_of_ble_eq_true rfl) vc ?_
        intro v3 h3 vc
        obtain ⟨hR3, vc⟩ := vc
        replace hR := hR3.trans hR
        refine go_if_eq 95 dX1_canTry_88 rfl (fun q => ?_) (fun q => ?_)
        · replace vc := vc.1 q
          refine go_iconst (v := 0) dX1_canTry_95 rfl ?_
          exact go_zret dX1_canTry_96 rfl (by decide) vc rfl (Nat.le_refl _) (Nat.le_refl _)
        · replace vc := vc.2 q
          refine go_iconst (v := 1) dX1_canTry_91 rfl ?_
          refine go_goto 96 dX1_canTry_92 rfl ?_
          exact go_zret dX1_canTry_96 rfl (by decide) vc rfl (Nat.le_refl _) (Nat.le_refl _)
set_option maxRecDepth 20000 in
theorem wX1_sendFile_0 {p : Program} {l : Launch} {e : Env} {s : State} {m : MethodId} {args : Array Value} {below : List Frame} {meth : Method} {c : Code} {G : gG} {d : Nat} {Q : Option Value → gH → Prop} {h : gH} {lk sp : Nat} {cd : Option Nat} {w1 n1 : Nat} {a2 : Int32} {a3 : Int32} (hR : h.2.2 = gRF lk sp cd) (hlk : lk = 30 ∨ lk = 67) (hsp : sp = 30 ∨ sp = 67) (hw1 : gSH[w1]? = some (20, n1)) (vc : gg p l e s m args below meth c G (d + 1) MX1_sendFile Q 9 [some (.ref 53), some (.ref w1), some (.int a2), some (.int a3), some (.int 0), some (.int (-1)), some (.int 0), none] [] h) : gg p l e s m args below meth c G (d + 1) MX1_sendFile Q 0 [some (.ref 53), some (.ref w1), some (.int a2), some (.int a3), none, none, none, none] [] h := by
  refine go_iconst (v := 0) dX1_sendFile_0 rfl ?_
  refine go_istore dX1_sendFile_1 (Nat.le_of_ble_eq_true rfl) ?_
  show gg p l e s m args below meth c G (d + 1) MX1_sendFile Q 3 [some (.ref 53), some (.ref w1), some (.int a2), some (.int a3), some (.int 0), none, none, none] [] h
  refine go_iconst (v := (-1)) dX1_sendFile_3 rfl ?_
  refine go_istore dX1_sendFile_4 (Nat.le_of_ble_eq_true rfl) ?_
  show gg p l e s m args below meth c G (d + 1) MX1_sendFile Q 6 [some (.ref 53), some (.ref w1), some (.int a2), some (.int a3), some (.int 0), some (.int (-1)), none, none] [] h
  refine go_iconst (v := 0) dX1_sendFile_6 rfl ?_
  refine go_istore dX1_sendFile_7 (Nat.le_of_ble_eq_true rfl) ?_
  show gg p l e s m args below meth c G (d + 1) MX1_sendFile Q 9 [some (.ref 53), some (.ref w1), some (.int a2), some (.int a3), some (.int 0), some (.int (-1)), some (.int 0), none] [] h
  exact vc
set_option maxRecDepth 20000 in
theorem wX1_sendFile_9 {p : Program} {l : Launch} {e : Env} {s : State} {m : MethodId} {args : Array Value} {below : List Frame} {meth : Method} {c : Code} {G : gG} {d : Nat} {Q : Option Value → gH → Prop} {h : gH} {lk sp : Nat} {cd : Option Nat} {w1 n1 : Nat} {x2 : Int32} {x3 : Int32} {x4 : Int32} {x5 : Int32} {x6 : Int32} (hR : h.2.2 = gRF lk sp cd) (hlk : lk = 30 ∨ lk = 67) (hsp : sp = 30 ∨ sp = 67) (hw1 : gSH[w1]? = some (20, n1)) (vc : ((x2 ≤ x6 → Q (some (.int x4)) h) ∧ (¬ x2 ≤ x6 → (((Int32.ofNat n1) ≤ x6 → Q (some (.int x4)) h) ∧ (¬ (Int32.ofNat n1) ≤ x6 → (vp_in x6 n1 ∧ gC l G d MX9_attempt [.ref 29, .int (h.1 w1 x6.toNatClampNeg), .int x3, .int x5] h (rI fun v1 h1 => h1.2.2 = (h).2.2 ∧ ((¬ v1 = 1 → gg p l e s m args below meth c G (d + 1) MX1_sendFile Q 9 [some (.ref 53), some (.ref w1), some (.int x2), some (.int x3), some (.int x4), some (.int x5), some (.int (x6 + 1)), none] [] h1) ∧ (v1 = 1 → gC l G d MX2_trustOf [.ref 6, .int (h.1 w1 x6.toNatClampNeg)] h1 (rI fun v2 h2 => h2.2.2 = (h1).2.2 ∧ gg p l e s m args below meth c G (d + 1) MX1_sendFile Q 9 [some (.ref 53), some (.ref w1), some (.int x2), some (.int x3), some (.int (x4 + 1)), some (.int v2), some (.int (x6 + 1)), none] [] h2)))))))))) : gg p l e s m args below meth c G (d + 1) MX1_sendFile Q 9 [some (.ref 53), some (.ref w1), some (.int x2), some (.int x3), some (.int x4), some (.int x5), some (.int x6), none] [] h := by
  refine go_iload (x := x6) dX1_sendFile_9 rfl ?_
  refine go_iload_n (x := x2) dX1_sendFile_11 rfl ?_
  refine go_icmp_ge 67 dX1_sendFile_12 rfl (fun q => ?_) (fun q => ?_)
  · replace vc := vc.1 q
    refine go_iload (x := x4) dX1_sendFile_67 rfl ?_
    exact go_iret dX1_sendFile_69 rfl vc rfl (Nat.le_refl _) (Nat.le_refl _)
  · replace vc := vc.2 q
    refine go_iload (x := x6) dX1_sendFile_15 rfl ?_
    refine go_aload_n (x := w1) dX1_sendFile_17 rfl ?_
    refine go_alen (v := (Int32.ofNat n1)) dX1_sendFile_18 hw1 (by decide) rfl ?_
    refine go_icmp_ge 67 dX1_sendFile_19 rfl (fun q => ?_) (fun q => ?_)
    · replace vc := vc.1 q
      refine go_iload (x := x4) dX1_sendFile_67 rfl ?_
      exact go_iret dX1_sendFile_69 rfl vc rfl (Nat.le_refl _) (Nat.le_refl _)
    · replace vc := vc.2 q
      refine go_aload_n (x := w1) dX1_sendFile_22 rfl ?_
      refine go_iload (x := x6) dX1_sendFile_23 rfl ?_
      refine go_iald' (v := (h.1 w1 x6.toNatClampNeg)) dX1_sendFile_25 hw1 vc.1 rfl ?_
      have vc := vc.2
      refine go_istore dX1_sendFile_26 (Nat.le_of_ble_eq_true rfl) ?_
      show gg p l e s m args below meth c G (d + 1) MX1_sendFile Q 28 [some (.ref 53), some (.ref w1), some (.int x2), some (.int x3), some (.int x4), some (.int x5), some (.int x6), some (.int (h.1 w1 x6.toNatClampNeg))] [] h
      refine go_aload_n (x := 53) dX1_sendFile_28 rfl ?_
      refine go_getR (x := 29) dX1_sendFile_29 f1_24 sh53 (fun _ _ => rfl) (rf53_0 hR) ?_
      refine go_iload (x := (h.1 w1 x6.toNatClampNeg)) dX1_sendFile_32 rfl ?_
      refine go_iload_n (x := x3) dX1_sendFile_34 rfl ?_
      refine go_iload (x := x5) dX1_sendFile_35 rfl ?_
      refine gvI3 MX9_attempt dX1_sendFile_37 lX1_69 kX9_attempt vX9_attempt sh29 (by decide) rfl (Nat.le_of_ble_eq_true rfl) vc ?_
      intro v1 h1 vc
      obtain ⟨hR1, vc⟩ := vc
      replace hR := hR1.trans hR
      refine go_iconst (v := 1) dX1_sendFile_40 rfl ?_
      refine go_icmp_ne 61 dX1_sendFile_41 rfl (fun q => ?_) (fun q => ?_)
      · replace vc := vc.1 q
        refine go_iinc (x := x6) dX1_sendFile_61 rfl ?_
        show gg p l e s m args below meth c G (d + 1) MX1_sendFile Q 64 [some (.ref 53), some (.ref w1), some (.int x2), some (.int x3), some (.int x4), some (.int x5), some (.int (x6 + 1)), some (.int (h.1 w1 x6.toNatClampNeg))] [] h1
        refine go_goto 9 dX1_sendFile_64 rfl ?_
        refine go_weak (ls' := [some (.ref 53), some (.ref w1), some (.int x2), some (.int x3), some (.int x4), some (.int x5), some (.int (x6 + 1)), none]) ?_ vc
        exact (⟨rfl, ⟨rfl, ⟨rfl, ⟨rfl, ⟨rfl, ⟨rfl, ⟨rfl, trivial⟩⟩⟩⟩⟩⟩⟩)
      · replace vc := vc.2 q
        refine go_aload_n (x := 53) dX1_sendFile_44 rfl ?_
        refine go_getR (x := 29) dX1_sendFile_45 f1_24 sh53 (fun _ _ => rfl) (rf53_0 hR) ?_
        refine go_getR (x := 6) dX1_sendFile_48 f1_52 sh29 (fun _ _ => rfl) (rf29_0 hR) ?_
        refine go_iload (x := (h.1 w1 x6.toNatClampNeg)) dX1_sendFile_51 rfl ?_
        refine gvI1 MX2_trustOf dX1_sendFile_53 lX1_73 kX2_trustOf vX2_trustOf sh6 (by decide) rfl (Nat.le_of_ble_eq_true rfl) vc ?_
        intro v2 h2 vc
        obtain ⟨hR2, vc⟩ := vc
        replace hR := hR2.trans hR
        refine go_istore dX1_sendFile_56 (Nat.le_of_ble_eq_true rfl) ?_
        show gg p l e s m args below meth c G (d + 1) MX1_sendFile Q 58 [some (.ref 53), some (.ref w1), some (.int x2), some (.int x3), some (.int x4), some (.int v2), some (.int x6), some (.int (h.1 w1 x6.toNatClampNeg))] [] h2
        refine go_iinc (x := x4) dX1_sendFile_58 rfl ?_
        show gg p l e s m args below meth c G (d + 1) MX1_sendFile Q 61 [some (.ref 53), some (.ref w1), some (.int x2), some (.int x3), some (.int (x4 + 1)), some (.int v2), some (.int x6), some (.int (h.1 w1 x6.toNatClampNeg))] [] h2
        refine go_iinc (x := x6) dX1_sendFile_61 rfl ?_
        show gg p l e s m args below meth c G (d + 1) MX1_sendFile Q 64 [some (.ref 53), some (.ref w1), some (.int x2), some (.int x3), some (.int (x4 + 1)), some (.int v2), some (.int (x6 + 1)), some (.int (h.1 w1 x6.toNatClampNeg))] [] h2
        refine go_goto 9 dX1_sendFile_64 rfl ?_
        refine go_weak (ls' := [some (.ref 53), some (.ref w1), some (.int x2), some (.int x3), some (.int (x4 + 1)), some (.int v2), some (.int (x6 + 1)), none]) ?_ vc
        exact (⟨rfl, ⟨rfl, ⟨rfl, ⟨rfl, ⟨rfl, ⟨rfl, ⟨rfl, trivial⟩⟩⟩⟩⟩⟩⟩)
set_option maxRecDepth 20000 in
theorem wX1_sort_0 {p : Program} {l : Launch} {e : Env} {s : State} {m : MethodId} {args : Array Value} {below : List Frame} {meth : Method} {c : Code} {G : gG} {d : Nat} {Q : Option Value → gH → Prop} {h : gH} {lk sp : Nat} {cd : Option Nat} {a1 : Int32} {a2 : Int32} (hR : h.2.2 = gRF lk sp cd) (hlk : lk = 30 ∨ lk = 67) (hsp : sp = 30 ∨ sp = 67)  (vc : gC l G d MX1_placeOne [.ref 53, .int a1, .int a2, .int 0, .int 0, .int (-1)] (sI h 53 4 (-1)) (rV fun h1 => h1.2.2 = ((sI h 53 4 (-1))).2.2 ∧ Q (some (.int (h1.1 53 4))) h1)) : gg p l e s m args below meth c G (d + 1) MX1_sort Q 0 [some (.ref 53), some (.int a1), some (.int a2)] [] h := by
  refine go_aload_n (x := 53) dX1_sort_0 rfl ?_
  refine go_iconst (v := (-1)) dX1_sort_1 rfl ?_
  refine go_putI dX1_sort_2 f1_32 sh53 rfl rfl ?_
  refine go_aload_n (x := 53) dX1_sort_5 rfl ?_
  refine go_iload_n (x := a1) dX1_sort_6 rfl ?_
  refine go_iload_n (x := a2) dX1_sort_7 rfl ?_
  refine go_iconst (v := 0) dX1_sort_8 rfl ?_
  refine go_iconst (v := 0) dX1_sort_9 rfl ?_
  refine go_iconst (v := (-1)) dX1_sort_10 rfl ?_
  refine gvV5 MX1_placeOne dX1_sort_11 lX1_76 kX1_placeOne vX1_placeOne sh53 (by decide) rfl (Nat.le_of_ble_eq_true rfl) vc ?_
  intro h1 vc
  obtain ⟨hR1, vc⟩ := vc
  replace hR := hR1.trans hR
  refine go_aload_n (x := 53) dX1_sort_14 rfl ?_
  refine go_getI' (v := (h1.1 53 4)) dX1_sort_15 f1_32 sh53 (fun _ _ => rfl) rfl ?_
  exact go_iret dX1_sort_18 rfl vc rfl (Nat.le_refl _) (Nat.le_refl _)
set_option maxRecDepth 20000 in
theorem wX1_placeOne_0 {p : Program} {l : Launch} {e : Env} {s : State} {m : MethodId} {args : Array Value} {below : List Frame} {meth : Method} {c : Code} {G : gG} {d : Nat} {Q : Option Value → gH → Prop} {h : gH} {lk sp : Nat} {cd : Option Nat} {a1 : Int32} {a2 : Int32} {a3 : Int32} {a4 : Int32} {a5 : Int32} (hR : h.2.2 = gRF lk sp cd) (hlk : lk = 30 ∨ lk = 67) (hsp : sp = 30 ∨ sp = 67)  (vc : gC l G d MJ6_bitCount_0f7a4 [.int a1] h (rI fun v1 h1 => h1.2.2 = (h).2.2 ∧ (((h1.1 53 4) < (a4 + v1) → ((¬ a1 = 0 → gg p l e s m args below meth c G (d + 1) MX1_placeOne Q 44 [some (.ref 53), some (.int a1), some (.int a2), some (.int a3), some (.int a4), some (.int a5), some (.int 0), none, none] [] h1) ∧ (a1 = 0 → Q none (sA (sI h1 53 4 a4) 55 (va_cpy ((sI h1 53 4 a4).1 54) ((sI h1 53 4 a4).1 55) 0 0 6))))) ∧ (¬ (h1.1 53 4) < (a4 + v1) → Q none h1)))) : gg p l e s m args below meth c G (d + 1) MX1_placeOne Q 0 [some (.ref 53), some (.int a1), some (.int a2), some (.int a3), some (.int a4), some (.int a5), none, none, none] [] h := by
  refine go_iload (x := a4) dX1_placeOne_0 rfl ?_
  refine go_iload_n (x := a1) dX1_placeOne_2 rfl ?_
  refine gsI1 MJ6_bitCount_0f7a4 dX1_placeOne_3 lX1_80 kJ6_bitCount_0f7a4 sJ6_bitCount_0f7a4 (Nat.le_of_ble_eq_true rfl) vc ?_
  intro v1 h1 vc
  obtain ⟨hR1, vc⟩ := vc
  replace hR := hR1.trans hR
  refine go_iadd dX1_placeOne_6 ?_
  refine go_aload_n (x := 53) dX1_placeOne_7 rfl ?_
  refine go_getI' (v := (h1.1 53 4)) dX1_placeOne_8 f1_32 sh53 (fun _ _ => rfl) rfl ?_
  refine go_icmp_gt 15 dX1_placeOne_11 rfl (fun q => ?_) (fun q => ?_)
  · replace vc := vc.1 q
    refine go_iload_n (x := a1) dX1_placeOne_15 rfl ?_
    refine go_if_ne 41 dX1_placeOne_16 rfl (fun q => ?_) (fun q => ?_)
    · replace vc := vc.1 q
      refine go_iconst (v := 0) dX1_placeOne_41 rfl ?_
      refine go_istore dX1_placeOne_42 (Nat.le_of_ble_eq_true rfl) ?_
      show gg p l e s m args below meth c G (d + 1) MX1_placeOne Q 44 [some (.ref 53), some (.int a1), some (.int a2), some (.int a3), some (.int a4), some (.int a5), some (.int 0), none, none] [] h1
      exact vc
    · replace vc := vc.2 q
      refine go_aload_n (x := 53) dX1_placeOne_19 rfl ?_
      refine go_iload (x := a4) dX1_placeOne_20 rfl ?_
      refine go_putI dX1_placeOne_22 f1_32 sh53 rfl rfl ?_
      refine go_aload_n (x := 53) dX1_placeOne_25 rfl ?_
      refine go_getR (x := 54) dX1_placeOne_26 f1_9 sh53 (fun _ _ => rfl) (rf53_1 hR) ?_
      refine go_iconst (v := 0) dX1_placeOne_29 rfl ?_
      refine go_aload_n (x := 53) dX1_placeOne_30 rfl ?_
      refine go_getR (x := 55) dX1_placeOne_31 f1_15 sh53 (fun _ _ => rfl) (rf53_2 hR) ?_
      refine go_iconst (v := 0) dX1_placeOne_34 rfl ?_
      refine go_bipush (v := 6) dX1_placeOne_35 rfl ?_
      refine go_copy (k0 := 54) (k1 := 55) dX1_placeOne_37 lYX1_85 sh54 sh55 (by decide) (by decide) (by decide) (by decide) (by decide) (Nat.le_of_ble_eq_true rfl) ?_
      show gg p l e s m args below meth c G (d + 1) MX1_placeOne Q 40 [some (.ref 53), some (.int a1), some (.int a2), some (.int a3), some (.int a4), some (.int a5), none, none, none] [] (sA (sI h1 53 4 a4) 55 (va_cpy ((sI h1 53 4 a4).1 54) ((sI h1 53 4 a4).1 55) 0 0 6))
      exact go_vret dX1_placeOne_40 rfl vc rfl (Nat.le_refl _) (Nat.le_refl _)
  · replace vc := vc.2 q
    exact go_vret dX1_placeOne_14 rfl vc rfl (Nat.le_refl _) (Nat.le_refl _)
set_option maxRecDepth 20000 in
theorem wX1_placeOne_44 {p : Program} {l : Launch} {e : Env} {s : State} {m : MethodId} {args : Array Value} {below : List Frame} {meth : Method} {c : Code} {G : gG} {d : Nat} {Q : Option Value → gH → Prop} {h : gH} {lk sp : Nat} {cd : Option Nat} {x1 : Int32} {x2 : Int32} {x3 : Int32} {x4 : Int32} {x5 : Int32} {x6 : Int32} (hR : h.2.2 = gRF lk sp cd) (hlk : lk = 30 ∨ lk = 67) (hsp : sp = 30 ∨ sp = 67)  (vc : ((6 ≤ x6 → Q none h) ∧ (¬ 6 ≤ x6 → ((x3 < 0 → Q none h) ∧ (¬ x3 < 0 → ((6 ≤ x3 → Q none h) ∧ (¬ 6 ≤ x3 → ((¬ ((x1 >>> (x6 &&& 31)) &&& 1) = 0 → (vp_in x3 6 ∧ gC l G d MX9_fearOf [.ref 29, .int x6, .int x2, .int x5] (sI h 54 x3.toNatClampNeg x6) (rI fun v1 h1 => h1.2.2 = ((sI h 54 x3.toNatClampNeg x6)).2.2 ∧ gC l G d MX2_trustOf [.ref 6, .int x6] h1 (rI fun v2 h2 => h2.2.2 = (h1).2.2 ∧ ((v2 < v1 → gC l G d MX1_placeOne [.ref 53, .int (x1 &&& ((1 <<< (x6 &&& 31)) ^^^ (-1))), .int x2, .int (x3 + 1), .int x4, .int x5] h2 (rV fun h3 => h3.2.2 = (h2).2.2 ∧ gg p l e s m args below meth c G (d + 1) MX1_placeOne Q 44 [some (.ref 53), some (.int x1), some (.int x2), some (.int x3), some (.int x4), some (.int x5), some (.int (x6 + 1)), none, none] [] h3)) ∧ (¬ v2 < v1 → gC l G d MX9_trustAfter [.ref 29, .int x6, .int x2, .int x5, .int v1] h2 (rI fun v4 h4 => h4.2.2 = (h2).2.2 ∧ gC l G d MX1_placeOne [.ref 53, .int (x1 &&& ((1 <<< (x6 &&& 31)) ^^^ (-1))), .int x2, .int (x3 + 1), .int (x4 + 1), .int v4] h4 (rV fun h5 => h5.2.2 = (h4).2.2 ∧ gg p l e s m args below meth c G (d + 1) MX1_placeOne Q 44 [some (.ref 53), some (.int x1), some (.int x2), some (.int x3), some (.int x4), some (.int x5), some (.int (x6 + 1)), none, none] [] h5)))))))) ∧ (((x1 >>> (x6 &&& 31)) &&& 1) = 0 → gg p l e s m args below meth c G (d + 1) MX1_placeOne Q 44 [some (.ref 53), some (.int x1), some (.int x2), some (.int x3), some (.int x4), some (.int x5), some (.int (x6 + 1)), none, none] [] h))))))))) : gg p l e s m args below meth c G (d + 1) MX1_placeOne Q 44 [some (.ref 53), some (.int x1), some (.int x2), some (.int x3), some (.int x4), some (.int x5), some (.int x6), none, none] [] h := by
  refine go_iload (x := x6) dX1_placeOne_44 rfl ?_
  refine go_bipush (v := 6) dX1_placeOne_46 rfl ?_
  refine go_icmp_ge 173 dX1_placeOne_48 rfl (fun q => ?_) (fun q => ?_)
  · replace vc := vc.1 q
    exact go_vret dX1_placeOne_173 rfl vc rfl (Nat.le_refl _) (Nat.le_refl _)
  · replace vc := vc.2 q
    refine go_iload_n (x := x3) dX1_placeOne_51 rfl ?_
    refine go_if_lt 173 dX1_placeOne_52 rfl (fun q => ?_) (fun q => ?_)
    · replace vc := vc.1 q
      exact go_vret dX1_placeOne_173 rfl vc rfl (Nat.le_refl _) (Nat.le_refl _)
    · replace vc := vc.2 q
      refine go_iload_n (x := x3) dX1_placeOne_55 rfl ?_
      refine go_bipush (v := 6) dX1_placeOne_56 rfl ?_
      refine go_icmp_ge 173 dX1_placeOne_58 rfl (fun q => ?_) (fun q => ?_)
      · replace vc := vc.1 q
        exact go_vret dX1_placeOne_173 rfl vc rfl (Nat.le_refl _) (Nat.le_refl _)
      · replace vc := vc.2 q
        refine go_iload_n (x := x1) dX1_placeOne_61 rfl ?_
        refine go_iload (x := x6) dX1_placeOne_62 rfl ?_
        refine go_ishr dX1_placeOne_64 ?_
        refine go_iconst (v := 1) dX1_placeOne_65 rfl ?_
        refine go_iand dX1_placeOne_66 ?_
        refine go_if_ne 73 dX1_placeOne_67 rfl (fun q => ?_) (fun q => ?_)
        · replace vc := vc.1 q
          refine go_aload_n (x := 53) dX1_placeOne_73 rfl ?_
          refine go_getR (x := 54) dX1_placeOne_74 f1_9 sh53 (fun _ _ => rfl) (rf53_1 hR) ?_
          refine go_iload_n (x := x3) dX1_placeOne_77 rfl ?_
          refine go_iload (x := x6) dX1_placeOne_78 rfl ?_
          refine go_iast dX1_placeOne_80 sh54 vc.1 ?_
          have vc := vc.2
          show gg p l e s m args below meth c G (d + 1) MX1_placeOne Q 81 [some (.ref 53), some (.int x1), some (.int x2), some (.int x3), some (.int x4), some (.int x5), some (.int x6), none, none] [] (sI h 54 x3.toNatClampNeg x6)
          refine go_iload_n (x := x1) dX1_placeOne_81 rfl ?_
          refine go_iconst (v := 1) dX1_placeOne_82 rfl ?_
          refine go_iload (x := x6) dX1_placeOne_83 rfl ?_
          refine go_ishl dX1_placeOne_85 ?_
          refine go_iconst (v := (-1)) dX1_placeOne_86 rfl ?_
          refine go_ixor dX1_placeOne_87 ?_
          refine go_iand dX1_placeOne_88 ?_
          refine go_istore dX1_placeOne_89 (Nat.le_of_ble_eq_true rfl) ?_
          show gg p l e s m args below meth c G (d + 1) MX1_placeOne Q 91 [some (.ref 53), some (.int x1), some (.int x2), some (.int x3), some (.int x4), some (.int x5), some (.int x6), some (.int (x1 &&& ((1 <<< (x6 &&& 31)) ^^^ (-1)))), none] [] (sI h 54 x3.toNatClampNeg x6)
          refine go_aload_n (x := 53) dX1_placeOne_91 rfl ?_
          refine go_getR (x := 29) dX1_placeOne_92 f1_24 sh53 (fun _ _ => rfl) (rf53_0 hR) ?_
          refine go_iload (x := x6) dX1_placeOne_95 rfl ?_
          refine go_iload_n (x := x2) dX1_placeOne_97 rfl ?_
          refine go_iload (x := x5) dX1_placeOne_98 rfl ?_
          refine gvI3 MX9_fearOf dX1_placeOne_100 lX1_91 kX9_fearOf vX9_fearOf sh29 (by decide) rfl (Nat.le_of_ble_eq_true rfl) vc ?_
          intro v1 h1 vc
          obtain ⟨hR1, vc⟩ := vc
          replace hR := hR1.trans hR
          refine go_istore dX1_placeOne_103 (Nat.le_of_ble_eq_true rfl) ?_
          show gg p l e s m args below meth c G (d + 1) MX1_placeOne Q 105 [some (.ref 53), some (.int x1), some (.int x2), some (.int x3), some (.int x4), some (.int x5), some (.int x6), some (.int (x1 &&& ((1 <<< (x6 &&& 31)) ^^^ (-1)))), some (.int v1)] [] h1
          refine go_iload (x := v1) dX1_placeOne_105 rfl ?_
          refine go_aload_n (x := 53) dX1_placeOne_107 rfl ?_
          refine go_getR (x := 29) dX1_placeOne_108 f1_24 sh53 (fun _ _ => rfl) (rf53_0 hR) ?_
          refine go_getR (x := 6) dX1_placeOne_111 f1_52 sh29 (fun _ _ => rfl) (rf29_0 hR) ?_
          refine go_iload (x := x6) dX1_placeOne_114 rfl ?_
          refine gvI1 MX2_trustOf dX1_placeOne_116 lX1_73 kX2_trustOf vX2_trustOf sh6 (by decide) rfl (Nat.le_of_ble_eq_true rfl) vc ?_
          intro v2 h2 vc
          obtain ⟨hR2, vc⟩ := vc
          replace hR := hR2.trans hR
          refine go_icmp_gt 153 dX1_placeOne_119 rfl (fun q => ?_) (fun q => ?_)
          · replace vc := vc.1 q
            refine go_aload_n (x := 53) dX1_placeOne_153 rfl ?_
            refine go_iload (x := (x1 &&& ((1 <<< (x6 &&& 31)) ^^^ (-1)))) dX1_placeOne_154 rfl ?_
            refine go_iload_n (x := x2) dX1_placeOne_156 rfl ?_
            refine go_iload_n (x := x3) dX1_placeOne_157 rfl ?_
            refine go_iconst (v := 1) dX1_placeOne_158 rfl ?_
            refine go_iadd dX1_placeOne_159 ?_
            refine go_iload (x := x4) dX1_placeOne_160 rfl ?_
            refine go_iload (x := x5) dX1_placeOne_162 rfl ?_
            refine gvV5 MX1_placeOne dX1_placeOne_164 lX1_76 kX1_placeOne vX1_placeOne sh53 (by decide) rfl (Nat.le_of_ble_eq_true rfl) vc ?_
            intro h3 vc
            obtain ⟨hR3, vc⟩ := vc
            replace hR := hR3.trans hR
            refine go_iinc (x := x6) dX1_placeOne_167 rfl ?_
            show gg p l e s m args below meth c G (d + 1) MX1_placeOne Q 170 [some (.ref 53), some (.int x1), some (.int x2), some (.int x3), some (.int x4), some (.int x5), some (.int (x6 + 1)), some (.int (x1 &&& ((1 <<< (x6 &&& 31)) ^^^ (-1)))), some (.int v1)] [] h3
            refine go_goto 44 dX1_placeOne_170 rfl ?_
            refine go_weak (ls' := [some (.ref 53), some (.int x1), some (.int x2), some (.int x3), some (.int x4), some (.int x5), some (.int (x6 + 1)), none, none]) ?_ vc
            exact (⟨rfl, ⟨rfl, ⟨rfl, ⟨rfl, ⟨rfl, ⟨rfl, ⟨rfl, trivial⟩⟩⟩⟩⟩⟩⟩)
          · replace vc := vc.2 q
            refine go_aload_n (x := 53) dX1_placeOne_122 rfl ?_
            refine go_iload (x := (x1 &&& ((1 <<< (x6 &&& 31)) ^^^ (-1)))) dX1_placeOne_123 rfl ?_
            refine go_iload_n (x := x2) dX1_placeOne_125 rfl ?_
            refine go_iload_n (x := x3) dX1_placeOne_126 rfl ?_
            refine go_iconst (v := 1) dX1_placeOne_127 rfl ?_
            refine go_iadd dX1_placeOne_128 ?_
            refine go_iload (x := x4) dX1_placeOne_129 rfl ?_
            refine go_iconst (v := 1) dX1_placeOne_131 rfl ?_
            refine go_iadd dX1_placeOne_132 ?_
            refine go_aload_n (x := 53) dX1_placeOne_133 rfl ?_
            refine go_getR (x := 29) dX1_placeOne_134 f1_24 sh53 (fun _ _ => rfl) (rf53_0 hR) ?_
            refine go_iload (x := x6) dX1_placeOne_137 rfl ?_
            refine go_iload_n (x := x2) dX1_placeOne_139 rfl ?_
            refine go_iload (x := x5) dX1_placeOne_140 rfl ?_
            refine go_iload (x := v1) dX1_placeOne_142 rfl ?_
            refine gvI4 MX9_trustAfter dX1_placeOne_144 lX1_94 kX9_trustAfter vX9_trustAfter sh29 (by decide) rfl (Nat.le_of_ble_eq_true rfl) vc ?_
            intro v4 h4 vc
            obtain ⟨hR4, vc⟩ := vc
            replace hR := hR4.trans hR
            refine gvV5 MX1_placeOne dX1_placeOne_147 lX1_76 kX1_placeOne vX1_placeOne sh53 (by decide) rfl (Nat.le_of_ble_eq_true rfl) vc ?_
            intro h5 vc
            obtain ⟨hR5, vc⟩ := vc
            replace hR := hR5.trans hR
            refine go_goto 167 dX1_placeOne_150 rfl ?_
            refine go_iinc (x := x6) dX1_placeOne_167 rfl ?_
            show gg p l e s m args below meth c G (d + 1) MX1_placeOne Q 170 [some (.ref 53), some (.int x1), some (.int x2), some (.int x3), some (.int x4), some (.int x5), some (.int (x6 + 1)), some (.int (x1 &&& ((1 <<< (x6 &&& 31)) ^^^ (-1)))), some (.int v1)] [] h5
            refine go_goto 44 dX1_placeOne_170 rfl ?_
            refine go_weak (ls' := [some (.ref 53), some (.int x1), some (.int x2), some (.int x3), some (.int x4), some (.int x5), some (.int (x6 + 1)), none, none]) ?_ vc
            exact (⟨rfl, ⟨rfl, ⟨rfl, ⟨rfl, ⟨rfl, ⟨rfl, ⟨rfl, trivial⟩⟩⟩⟩⟩⟩⟩)
        · replace vc := vc.2 q
          refine go_goto 167 dX1_placeOne_70 rfl ?_
          refine go_iinc (x := x6) dX1_placeOne_167 rfl ?_
          show gg p l e s m args below meth c G (d + 1) MX1_placeOne Q 170 [some (.ref 53), some (.int x1), some (.int x2), some (.int x3), some (.int x4), some (.int x5), some (.int (x6 + 1)), none, none] [] h
          refine go_goto 44 dX1_placeOne_170 rfl ?_
          exact vc
set_option maxRecDepth 20000 in
theorem wX1_findLeader_0 {p : Program} {l : Launch} {e : Env} {s : State} {m : MethodId} {args : Array Value} {below : List Frame} {meth : Method} {c : Code} {G : gG} {d : Nat} {Q : Option Value → gH → Prop} {h : gH} {lk sp : Nat} {cd : Option Nat} {a1 : Int32} {a2 : Int32} (hR : h.2.2 = gRF lk sp cd) (hlk : lk = 30 ∨ lk = 67) (hsp : sp = 30 ∨ sp = 67)  (vc : gg p l e s m args below meth c G (d + 1) MX1_findLeader Q 10 [some (.ref 53), some (.int a1), some (.int a2), some (.int (-1)), some (.int 0), none] [] (sI h 53 3 0)) : gg p l e s m args below meth c G (d + 1) MX1_findLeader Q 0 [some (.ref 53), some (.int a1), some (.int a2), none, none, none] [] h := by
  refine go_iconst (v := (-1)) dX1_findLeader_0 rfl ?_
  refine go_istore_n dX1_findLeader_1 (Nat.le_of_ble_eq_true rfl) ?_
  show gg p l e s m args below meth c G (d + 1) MX1_findLeader Q 2 [some (.ref 53), some (.int a1), some (.int a2), some (.int (-1)), none, none] [] h
  refine go_aload_n (x := 53) dX1_findLeader_2 rfl ?_
  refine go_iconst (v := 0) dX1_findLeader_3 rfl ?_
  refine go_putI dX1_findLeader_4 f1_28 sh53 rfl rfl ?_
  refine go_iconst (v := 0) dX1_findLeader_7 rfl ?_
  refine go_istore dX1_findLeader_8 (Nat.le_of_ble_eq_true rfl) ?_
  show gg p l e s m args below meth c G (d + 1) MX1_findLeader Q 10 [some (.ref 53), some (.int a1), some (.int a2), some (.int (-1)), some (.int 0), none] [] (sI h 53 3 0)
  exact vc
set_option maxRecDepth 20000 in
theorem wX1_findLeader_10 {p : Program} {l : Launch} {e : Env} {s : State} {m : MethodId} {args : Array Value} {below : List Frame} {meth : Method} {c : Code} {G : gG} {d : Nat} {Q : Option Value → gH → Prop} {h : gH} {lk sp : Nat} {cd : Option Nat} {x1 : Int32} {x2 : Int32} {x3 : Int32} {x4 : Int32} (hR : h.2.2 = gRF lk sp cd) (hlk : lk = 30 ∨ lk = 67) (hsp : sp = 30 ∨ sp = 67)  (vc : ((6 ≤ x4 → Q (some (.int x3)) h) ∧ (¬ 6 ≤ x4 → ((¬ ((x1 >>> (x4 &&& 31)) &&& 1) = 1 → ((0 ≤ (h.1 53 3) → gg p l e s m args below meth c G (d + 1) MX1_findLeader Q 10 [some (.ref 53), some (.int x1), some (.int x2), some (.int x3), some (.int (x4 + 1)), none] [] h) ∧ (¬ 0 ≤ (h.1 53 3) → gg p l e s m args below meth c G (d + 1) MX1_findLeader Q 10 [some (.ref 53), some (.int x1), some (.int x2), some (.int x4), some (.int (x4 + 1)), none] [] (sI h 53 3 0)))) ∧ (((x1 >>> (x4 &&& 31)) &&& 1) = 1 → gC l G d MX1_countLed [.ref 53, .int x4, .int x1, .int x2] h (rI fun v1 h1 => h1.2.2 = (h).2.2 ∧ ((v1 ≤ (h1.1 53 3) → gg p l e s m args below meth c G (d + 1) MX1_findLeader Q 10 [some (.ref 53), some (.int x1), some (.int x2), some (.int x3), some (.int (x4 + 1)), none] [] h1) ∧ (¬ v1 ≤ (h1.1 53 3) → gg p l e s m args below meth c G (d + 1) MX1_findLeader Q 10 [some (.ref 53), some (.int x1), some (.int x2), some (.int x4), some (.int (x4 + 1)), none] [] (sI h1 53 3 v1))))))))) : gg p l e s m args below meth c G (d + 1) MX1_findLeader Q 10 [some (.ref 53), some (.int x1), some (.int x2), some (.int x3), some (.int x4), none] [] h := by
  refine go_iload (x := x4) dX1_findLeader_10 rfl ?_
  refine go_bipush (v := 6) dX1_findLeader_12 rfl ?_
  refine go_icmp_ge 65 dX1_findLeader_14 rfl (fun q => ?_) (fun q => ?_)
  · replace vc := vc.1 q
    refine go_iload_n (x := x3) dX1_findLeader_65 rfl ?_
    exact go_iret dX1_findLeader_66 rfl vc rfl (Nat.le_refl _) (Nat.le_refl _)
  · replace vc := vc.2 q
    refine go_iload_n (x := x1) dX1_findLeader_17 rfl ?_
    refine go_iload (x := x4) dX1_findLeader_18 rfl ?_
    refine go_ishr dX1_findLeader_20 ?_
    refine go_iconst (v := 1) dX1_findLeader_21 rfl ?_
    refine go_iand dX1_findLeader_22 ?_
    refine go_iconst (v := 1) dX1_findLeader_23 rfl ?_
    refine go_icmp_ne 38 dX1_findLeader_24 rfl (fun q => ?_) (fun q => ?_)
    · replace vc := vc.1 q
      refine go_iconst (v := 0) dX1_findLeader_38 rfl ?_
      refine go_istore dX1_findLeader_39 (Nat.le_of_ble_eq_true rfl) ?_
      show gg p l e s m args below meth c G (d + 1) MX1_findLeader Q 41 [some (.ref 53), some (.int x1), some (.int x2), some (.int x3), some (.int x4), some (.int 0)] [] h
      refine go_iload (x := 0) dX1_findLeader_41 rfl ?_
      refine go_aload_n (x := 53) dX1_findLeader_43 rfl ?_
      refine go_getI' (v := (h.1 53 3)) dX1_findLeader_44 f1_28 sh53 (fun _ _ => rfl) rfl ?_
      refine go_icmp_le 59 dX1_findLeader_47 rfl (fun q => ?_) (fun q => ?_)
      · replace vc := vc.1 q
        refine go_iinc (x := x4) dX1_findLeader_59 rfl ?_
        show gg p l e s m args below meth c G (d + 1) MX1_findLeader Q 62 [some (.ref 53), some (.int x1), some (.int x2), some (.int x3), some (.int (x4 + 1)), some (.int 0)] [] h
        refine go_goto 10 dX1_findLeader_62 rfl ?_
        refine go_weak (ls' := [some (.ref 53), some (.int x1), some (.int x2), some (.int x3), some (.int (x4 + 1)), none]) ?_ vc
        exact (⟨rfl, ⟨rfl, ⟨rfl, ⟨rfl, ⟨rfl, trivial⟩⟩⟩⟩⟩)
      · replace vc := vc.2 q
        refine go_aload_n (x := 53) dX1_findLeader_50 rfl ?_
        refine go_iload (x := 0) dX1_findLeader_51 rfl ?_
        refine go_putI dX1_findLeader_53 f1_28 sh53 rfl rfl ?_
        refine go_iload (x := x4) dX1_findLeader_56 rfl ?_
        refine go_istore_n dX1_findLeader_58 (Nat.le_of_ble_eq_true rfl) ?_
        show gg p l e s m args below meth c G (d + 1) MX1_findLeader Q 59 [some (.ref 53), some (.int x1), some (.int x2), some (.int x4), some (.int x4), some (.int 0)] [] (sI h 53 3 0)
        refine go_iinc (x := x4) dX1_findLeader_59 rfl ?_
        show gg p l e s m args below meth c G (d + 1) MX1_findLeader Q 62 [some (.ref 53), some (.int x1), some (.int x2), some (.int x4), some (.int (x4 + 1)), some (.int 0)] [] (sI h 53 3 0)
        refine go_goto 10 dX1_findLeader_62 rfl ?_
        refine go_weak (ls' := [some (.ref 53), some (.int x1), some (.int x2), some (.int x4), some (.int (x4 + 1)), none]) ?_ vc
        exact (⟨rfl, ⟨rfl, ⟨rfl, ⟨rfl, ⟨rfl, trivial⟩⟩⟩⟩⟩)
    · replace vc := vc.2 q
      refine go_aload_n (x := 53) dX1_findLeader_27 rfl ?_
      refine go_iload (x := x4) dX1_findLeader_28 rfl ?_
      refine go_iload_n (x := x1) dX1_findLeader_30 rfl ?_
      refine go_iload_n (x := x2) dX1_findLeader_31 rfl ?_
      refine gvI3 MX1_countLed dX1_findLeader_32 lX1_98 kX1_countLed vX1_countLed sh53 (by decide) rfl (Nat.le_of_ble_eq_true rfl) vc ?_
      intro v1 h1 vc
      obtain ⟨hR1, vc⟩ := vc
      replace hR := hR1.trans hR
      refine go_goto 39 dX1_findLeader_35 rfl ?_
      refine go_istore dX1_findLeader_39 (Nat.le_of_ble_eq_true rfl) ?_
      show gg p l e s m args below meth c G (d + 1) MX1_findLeader Q 41 [some (.ref 53), some (.int x1), some (.int x2), some (.int x3), some (.int x4), some (.int v1)] [] h1
      refine go_iload (x := v1) dX1_findLeader_41 rfl ?_
      refine go_aload_n (x := 53) dX1_findLeader_43 rfl ?_
      refine go_getI' (v := (h1.1 53 3)) dX1_findLeader_44 f1_28 sh53 (fun _ _ => rfl) rfl ?_
      refine go_icmp_le 59 dX1_findLeader_47 rfl (fun q => ?_) (fun q => ?_)
      · replace vc := vc.1 q
        refine go_iinc (x := x4) dX1_findLeader_59 rfl ?_
        show gg p l e s m args below meth c G (d + 1) MX1_findLeader Q 62 [some (.ref 53), some (.int x1), some (.int x2), some (.int x3), some (.int (x4 + 1)), some (.int v1)] [] h1
        refine go_goto 10 dX1_findLeader_62 rfl ?_
        refine go_weak (ls' := [some (.ref 53), some (.int x1), some (.int x2), some (.int x3), some (.int (x4 + 1)), none]) ?_ vc
        exact (⟨rfl, ⟨rfl, ⟨rfl, ⟨rfl, ⟨rfl, trivial⟩⟩⟩⟩⟩)
      · replace vc := vc.2 q
        refine go_aload_n (x := 53) dX1_findLeader_50 rfl ?_
        refine go_iload (x := v1) dX1_findLeader_51 rfl ?_
        refine go_putI dX1_findLeader_53 f1_28 sh53 rfl rfl ?_
        refine go_iload (x := x4) dX1_findLeader_56 rfl ?_
        refine go_istore_n dX1_findLeader_58 (Nat.le_of_ble_eq_true rfl) ?_
        show gg p l e s m args below meth c G (d + 1) MX1_findLeader Q 59 [some (.ref 53), some (.int x1), some (.int x2), some (.int x4), some (.int x4), some (.int v1)] [] (sI h1 53 3 v1)
        refine go_iinc (x := x4) dX1_findLeader_59 rfl ?_
        show gg p l e s m args below meth c G (d + 1) MX1_findLeader Q 62 [some (.ref 53), some (.int x1), some (.int x2), some (.int x4), some (.int (x4 + 1)), some (.int v1)] [] (sI h1 53 3 v1)
        refine go_goto 10 dX1_findLeader_62 rfl ?_
        refine go_weak (ls' := [some (.ref 53), some (.int x1), some (.int x2), some (.int x4), some (.int (x4 + 1)), none]) ?_ vc
        exact (⟨rfl, ⟨rfl, ⟨rfl, ⟨rfl, ⟨rfl, trivial⟩⟩⟩⟩⟩)
set_option maxRecDepth 20000 in
theorem wX1_countLed_0 {p : Program} {l : Launch} {e : Env} {s : State} {m : MethodId} {args : Array Value} {below : List Frame} {meth : Method} {c : Code} {G : gG} {d : Nat} {Q : Option Value → gH → Prop} {h : gH} {lk sp : Nat} {cd : Option Nat} {a1 : Int32} {a2 : Int32} {a3 : Int32} (hR : h.2.2 = gRF lk sp cd) (hlk : lk = 30 ∨ lk = 67) (hsp : sp = 30 ∨ sp = 67)  (vc : gC l G d MX9_fearOf [.ref 29, .int a1, .int a3, .int (-1)] h (rI fun v1 h1 => h1.2.2 = (h).2.2 ∧ gC l G d MX2_trustOf [.ref 6, .int a1] h1 (rI fun v2 h2 => h2.2.2 = (h1).2.2 ∧ ((v1 ≤ v2 → gC l G d MX9_trustAfter [.ref 29, .int a1, .int a3, .int (-1), .int v1] h2 (rI fun v3 h3 => h3.2.2 = (h2).2.2 ∧ gg p l e s m args below meth c G (d + 1) MX1_countLed Q 50 [some (.ref 53), some (.int a1), some (.int a2), some (.int a3), some (.int v1), some (.int v3), some (.int 1), some (.int 0), none] [] h3)) ∧ (¬ v1 ≤ v2 → Q (some (.int 0)) h2))))) : gg p l e s m args below meth c G (d + 1) MX1_countLed Q 0 [some (.ref 53), some (.int a1), some (.int a2), some (.int a3), none, none, none, none, none] [] h := by
  refine go_aload_n (x := 53) dX1_countLed_0 rfl ?_
  refine go_getR (x := 29) dX1_countLed_1 f1_24 sh53 (fun _ _ => rfl) (rf53_0 hR) ?_
  refine go_iload_n (x := a1) dX1_countLed_4 rfl ?_
  refine go_iload_n (x := a3) dX1_countLed_5 rfl ?_
  refine go_iconst (v := (-1)) dX1_countLed_6 rfl ?_
  refine gvI3 MX9_fearOf dX1_countLed_7 lX1_91 kX9_fearOf vX9_fearOf sh29 (by decide) rfl (Nat.le_of_ble_eq_true rfl) vc ?_
  intro v1 h1 vc
  obtain ⟨hR1, vc⟩ := vc
  replace hR := hR1.trans hR
  refine go_istore dX1_countLed_10 (Nat.le_of_ble_eq_true rfl) ?_
  show gg p l e s m args below meth c G (d + 1) MX1_countLed Q 12 [some (.ref 53), some (.int a1), some (.int a2), some (.int a3), some (.int v1), none, none, none, none] [] h1
  refine go_iload (x := v1) dX1_countLed_12 rfl ?_
  refine go_aload_n (x := 53) dX1_countLed_14 rfl ?_
  refine go_getR (x := 29) dX1_countLed_15 f1_24 sh53 (fun _ _ => rfl) (rf53_0 hR) ?_
  refine go_getR (x := 6) dX1_countLed_18 f1_52 sh29 (fun _ _ => rfl) (rf29_0 hR) ?_
  refine go_iload_n (x := a1) dX1_countLed_21 rfl ?_
  refine gvI1 MX2_trustOf dX1_countLed_22 lX1_73 kX2_trustOf vX2_trustOf sh6 (by decide) rfl (Nat.le_of_ble_eq_true rfl) vc ?_
  intro v2 h2 vc
  obtain ⟨hR2, vc⟩ := vc
  replace hR := hR2.trans hR
  refine go_icmp_le 30 dX1_countLed_25 rfl (fun q => ?_) (fun q => ?_)
  · replace vc := vc.1 q
    refine go_aload_n (x := 53) dX1_countLed_30 rfl ?_
    refine go_getR (x := 29) dX1_countLed_31 f1_24 sh53 (fun _ _ => rfl) (rf53_0 hR) ?_
    refine go_iload_n (x := a1) dX1_countLed_34 rfl ?_
    refine go_iload_n (x := a3) dX1_countLed_35 rfl ?_
    refine go_iconst (v := (-1)) dX1_countLed_36 rfl ?_
    refine go_iload (x := v1) dX1_countLed_37 rfl ?_
    refine gvI4 MX9_trustAfter dX1_countLed_39 lX1_94 kX9_trustAfter vX9_trustAfter sh29 (by decide) rfl (Nat.le_of_ble_eq_true rfl) vc ?_
    intro v3 h3 vc
    obtain ⟨hR3, vc⟩ := vc
    replace hR := hR3.trans hR
    refine go_istore dX1_countLed_42 (Nat.le_of_ble_eq_true rfl) ?_
    show gg p l e s m args below meth c G (d + 1) MX1_countLed Q 44 [some (.ref 53), some (.int a1), some (.int a2), some (.int a3), some (.int v1), some (.int v3), none, none, none] [] h3
    refine go_iconst (v := 1) dX1_countLed_44 rfl ?_
    refine go_istore dX1_countLed_45 (Nat.le_of_ble_eq_true rfl) ?_
    show gg p l e s m args below meth c G (d + 1) MX1_countLed Q 47 [some (.ref 53), some (.int a1), some (.int a2), some (.int a3), some (.int v1), some (.int v3), some (.int 1), none, none] [] h3
    refine go_iconst (v := 0) dX1_countLed_47 rfl ?_
    refine go_istore dX1_countLed_48 (Nat.le_of_ble_eq_true rfl) ?_
    show gg p l e s m args below meth c G (d + 1) MX1_countLed Q 50 [some (.ref 53), some (.int a1), some (.int a2), some (.int a3), some (.int v1), some (.int v3), some (.int 1), some (.int 0), none] [] h3
    exact vc
  · replace vc := vc.2 q
    refine go_iconst (v := 0) dX1_countLed_28 rfl ?_
    exact go_iret dX1_countLed_29 rfl vc rfl (Nat.le_refl _) (Nat.le_refl _)
set_option maxRecDepth 20000 in
theorem wX1_countLed_50 {p : Program} {l : Launch} {e : Env} {s : State} {m : MethodId} {args : Array Value} {below : List Frame} {meth : Method} {c : Code} {G : gG} {d : Nat} {Q : Option Value → gH → Prop} {h : gH} {lk sp : Nat} {cd : Option Nat} {x1 : Int32} {x2 : Int32} {x3 : Int32} {x4 : Int32} {x5 : Int32} {x6 : Int32} {x7 : Int32} (hR : h.2.2 = gRF lk sp cd) (hlk : lk = 30 ∨ lk = 67) (hsp : sp = 30 ∨ sp = 67)  (vc : ((6 ≤ x7 → Q (some (.int x6)) h) ∧ (¬ 6 ≤ x7 → ((x7 = x1 → gg p l e s m args below meth c G (d + 1) MX1_countLed Q 50 [some (.ref 53), some (.int x1), some (.int x2), some (.int x3), some (.int x4), some (.int x5), some (.int x6), some (.int (x7 + 1)), none] [] h) ∧ (¬ x7 = x1 → ((¬ ((x2 >>> (x7 &&& 31)) &&& 1) = 1 → gg p l e s m args below meth c G (d + 1) MX1_countLed Q 50 [some (.ref 53), some (.int x1), some (.int x2), some (.int x3), some (.int x4), some (.int x5), some (.int x6), some (.int (x7 + 1)), none] [] h) ∧ (((x2 >>> (x7 &&& 31)) &&& 1) = 1 → gC l G d MX9_fearOf [.ref 29, .int x7, .int x3, .int x5] h (rI fun v1 h1 => h1.2.2 = (h).2.2 ∧ gC l G d MX2_trustOf [.ref 6, .int x7] h1 (rI fun v2 h2 => h2.2.2 = (h1).2.2 ∧ ((v2 < v1 → gg p l e s m args below meth c G (d + 1) MX1_countLed Q 50 [some (.ref 53), some (.int x1), some (.int x2), some (.int x3), some (.int x4), some (.int x5), some (.int x6), some (.int (x7 + 1)), none] [] h2) ∧ (¬ v2 < v1 → gg p l e s m args below meth c G (d + 1) MX1_countLed Q 50 [some (.ref 53), some (.int x1), some (.int x2), some (.int x3), some (.int x4), some (.int x5), some (.int (x6 + 1)), some (.int (x7 + 1)), none] [] h2))))))))))) : gg p l e s m args below meth c G (d + 1) MX1_countLed Q 50 [some (.ref 53), some (.int x1), some (.int x2), some (.int x3), some (.int x4), some (.int x5), some (.int x6), some (.int x7), none] [] h := by
  refine go_iload (x := x7) dX1_countLed_50 rfl ?_
  refine go_bipush (v := 6) dX1_countLed_52 rfl ?_
  refine go_icmp_ge 121 dX1_countLed_54 rfl (fun q => ?_) (fun q => ?_)
  · replace vc := vc.1 q
    refine go_iload (x := x6) dX1_countLed_121 rfl ?_
    exact go_iret dX1_countLed_123 rfl vc rfl (Nat.le_refl _) (Nat.le_refl _)
  · replace vc := vc.2 q
    refine go_iload (x := x7) dX1_countLed_57 rfl ?_
    refine go_iload_n (x := x1) dX1_countLed_59 rfl ?_
    refine go_icmp_eq 77 dX1_countLed_60 rfl (fun q => ?_) (fun q => ?_)
    · replace vc := vc.1 q
      refine go_iconst (v := 0) dX1_countLed_77 rfl ?_
      refine go_istore dX1_countLed_78 (Nat.le_of_ble_eq_true rfl) ?_
      show gg p l e s m args below meth c G (d + 1) MX1_countLed Q 80 [some (.ref 53), some (.int x1), some (.int x2), some (.int x3), some (.int x4), some (.int x5), some (.int x6), some (.int x7), some (.int 0)] [] h
      refine go_iload (x := 0) dX1_countLed_80 rfl ?_
      refine go_if_eq 115 dX1_countLed_82 rfl (fun q => ?_) (fun q => absurd q (by decide))
      refine go_iinc (x := x7) dX1_countLed_115 rfl ?_
      show gg p l e s m args below meth c G (d + 1) MX1_countLed Q 118 [some (.ref 53), some (.int x1), some (.int x2), some (.int x3), some (.int x4), some (.int x5), some (.int x6), some (.int (x7 + 1)), some (.int 0)] [] h
      refine go_goto 50 dX1_countLed_118 rfl ?_
      refine go_weak (ls' := [some (.ref 53), some (.int x1), some (.int x2), some (.int x3), some (.int x4), some (.int x5), some (.int x6), some (.int (x7 + 1)), none]) ?_ vc
      exact (⟨rfl, ⟨rfl, ⟨rfl, ⟨rfl, ⟨rfl, ⟨rfl, ⟨rfl, ⟨rfl, trivial⟩⟩⟩⟩⟩⟩⟩⟩)
    · replace vc := vc.2 q
      refine go_iload_n (x := x2) dX1_countLed_63 rfl ?_
      refine go_iload (x := x7) dX1_countLed_64 rfl ?_
      refine go_ishr dX1_countLed_66 ?_
      refine go_iconst (v := 1) dX1_countLed_67 rfl ?_
      refine go_iand dX1_countLed_68 ?_
      refine go_iconst (v := 1) dX1_countLed_69 rfl ?_
      refine go_icmp_ne 77 dX1_countLed_70 rfl (fun q => ?_) (fun q => ?_)
      · replace vc := vc.1 q
        refine go_iconst (v := 0) dX1_countLed_77 rfl ?_
        refine go_istore dX1_countLed_78 (Nat.le_of_ble_eq_true rfl) ?_
        show gg p l e s m args below meth c G (d + 1) MX1_countLed Q 80 [some (.ref 53), some (.int x1), some (.int x2), some (.int x3), some (.int x4), some (.int x5), some (.int x6), some (.int x7), some (.int 0)] [] h
        refine go_iload (x := 0) dX1_countLed_80 rfl ?_
        refine go_if_eq 115 dX1_countLed_82 rfl (fun q => ?_) (fun q => absurd q (by decide))
        refine go_iinc (x := x7) dX1_countLed_115 rfl ?_
        show gg p l e s m args below meth c G (d + 1) MX1_countLed Q 118 [some (.ref 53), some (.int x1), some (.int x2), some (.int x3), some (.int x4), some (.int x5), some (.int x6), some (.int (x7 + 1)), some (.int 0)] [] h
        refine go_goto 50 dX1_countLed_118 rfl ?_
        refine go_weak (ls' := [some (.ref 53), some (.int x1), some (.int x2), some (.int x3), some (.int x4), some (.int x5), some (.int x6), some (.int (x7 + 1)), none]) ?_ vc
        exact (⟨rfl, ⟨rfl, ⟨rfl, ⟨rfl, ⟨rfl, ⟨rfl, ⟨rfl, ⟨rfl, trivial⟩⟩⟩⟩⟩⟩⟩⟩)
      · replace vc := vc.2 q
        refine go_iconst (v := 1) dX1_countLed_73 rfl ?_
        refine go_goto 78 dX1_countLed_74 rfl ?_
        refine go_istore dX1_countLed_78 (Nat.le_of_ble_eq_true rfl) ?_
        show gg p l e s m args below meth c G (d + 1) MX1_countLed Q 80 [some (.ref 53), some (.int x1), some (.int x2), some (.int x3), some (.int x4), some (.int x5), some (.int x6), some (.int x7), some (.int 1)] [] h
        refine go_iload (x := 1) dX1_countLed_80 rfl ?_
        refine go_if_eq 115 dX1_countLed_82 rfl (fun q => absurd q (by decide)) (fun q => ?_)
        refine go_aload_n (x := 53) dX1_countLed_85 rfl ?_
        refine go_getR (x := 29) dX1_countLed_86 f1_24 sh53 (fun _ _ => rfl) (rf53_0 hR) ?_
        refine go_iload (x := x7) dX1_countLed_89 rfl ?_
        refine go_iload_n (x := x3) dX1_countLed_91 rfl ?_
        refine go_iload (x := x5) dX1_countLed_92 rfl ?_
        refine gvI3 MX9_fearOf dX1_countLed_94 lX1_91 kX9_fearOf vX9_fearOf sh29 (by decide) rfl (Nat.le_of_ble_eq_true rfl) vc ?_
        intro v1 h1 vc
        obtain ⟨hR1, vc⟩ := vc
        replace hR := hR1.trans hR
        refine go_aload_n (x := 53) dX1_countLed_97 rfl ?_
        refine go_getR (x := 29) dX1_countLed_98 f1_24 sh53 (fun _ _ => rfl) (rf53_0 hR) ?_
        refine go_getR (x := 6) dX1_countLed_101 f1_52 sh29 (fun _ _ => rfl) (rf29_0 hR) ?_
        refine go_iload (x := x7) dX1_countLed_104 rfl ?_
        refine gvI1 MX2_trustOf dX1_countLed_106 lX1_73 kX2_trustOf vX2_trustOf sh6 (by decide) rfl (Nat.le_of_ble_eq_true rfl) vc ?_
        intro v2 h2 vc
        obtain ⟨hR2, vc⟩ := vc
        replace hR := hR2.trans hR
        refine go_icmp_gt 115 dX1_countLed_109 rfl (fun q => ?_) (fun q => ?_)
        · replace vc := vc.1 q
          refine go_iinc (x := x7) dX1_countLed_115 rfl ?_
          show gg p l e s m args below meth c G (d + 1) MX1_countLed Q 118 [some (.ref 53), some (.int x1), some (.int x2), some (.int x3), some (.int x4), some (.int x5), some (.int x6), some (.int (x7 + 1)), some (.int 1)] [] h2
          refine go_goto 50 dX1_countLed_118 rfl ?_
          refine go_weak (ls' := [some (.ref 53), some (.int x1), some (.int x2), some (.int x3), some (.int x4), some (.int x5), some (.int x6), some (.int (x7 + 1)), none]) ?_ vc
          exact (⟨rfl, ⟨rfl, ⟨rfl, ⟨rfl, ⟨rfl, ⟨rfl, ⟨rfl, ⟨rfl, trivial⟩⟩⟩⟩⟩⟩⟩⟩)
        · replace vc := vc.2 q
          refine go_iinc (x := x6) dX1_countLed_112 rfl ?_
          show gg p l e s m args below meth c G (d + 1) MX1_countLed Q 115 [some (.ref 53), some (.int x1), some (.int x2), some (.int x3), some (.int x4), some (.int x5), some (.int (x6 + 1)), some (.int x7), some (.int 1)] [] h2
          refine go_iinc (x := x7) dX1_countLed_115 rfl ?_
          show gg p l e s m args below meth c G (d + 1) MX1_countLed Q 118 [some (.ref 53), some (.int x1), some (.int x2), some (.int x3), some (.int x4), some (.int x5), some (.int (x6 + 1)), some (.int (x7 + 1)), some (.int 1)] [] h2
          refine go_goto 50 dX1_countLed_118 rfl ?_
          refine go_weak (ls' := [some (.ref 53), some (.int x1), some (.int x2), some (.int x3), some (.int x4), some (.int x5), some (.int (x6 + 1)), some (.int (x7 + 1)), none]) ?_ vc
          exact (⟨rfl, ⟨rfl, ⟨rfl, ⟨rfl, ⟨rfl, ⟨rfl, ⟨rfl, ⟨rfl, trivial⟩⟩⟩⟩⟩⟩⟩⟩)
set_option maxRecDepth 20000 in
theorem wX1_matchedHand_0 {p : Program} {l : Launch} {e : Env} {s : State} {m : MethodId} {args : Array Value} {below : List Frame} {meth : Method} {c : Code} {G : gG} {d : Nat} {Q : Option Value → gH → Prop} {h : gH} {lk sp : Nat} {cd : Option Nat} {a1 : Int32} (hR : h.2.2 = gRF lk sp cd) (hlk : lk = 30 ∨ lk = 67) (hsp : sp = 30 ∨ sp = 67)  (vc : gC l G d MJ7_fill_53178 [.ref 56, .int (-1)] h (rV fun h1 => h1.2.2 = (h).2.2 ∧ gC l G d MJ7_fill_53178 [.ref 57, .int 0] h1 (rV fun h2 => h2.2.2 = (h1).2.2 ∧ gg p l e s m args below meth c G (d + 1) MX1_matchedHand Q 18 [some (.ref 53), some (.int a1), some (.int 0), none] [] h2))) : gg p l e s m args below meth c G (d + 1) MX1_matchedHand Q 0 [some (.ref 53), some (.int a1), none, none] [] h := by
  refine go_aload_n (x := 53) dX1_matchedHand_0 rfl ?_
  refine go_getR (x := 56) dX1_matchedHand_1 f1_18 sh53 (fun _ _ => rfl) (rf53_5 hR) ?_
  refine go_iconst (v := (-1)) dX1_matchedHand_4 rfl ?_
  refine gsV2 MJ7_fill_53178 dX1_matchedHand_5 lX1_101 kJ7_fill_53178 sJ7_fill_53178 (Nat.le_of_ble_eq_true rfl) vc ?_
  intro h1 vc
  obtain ⟨hR1, vc⟩ := vc
  replace hR := hR1.trans hR
  refine go_aload_n (x := 53) dX1_matchedHand_8 rfl ?_
  refine go_getR (x := 57) dX1_matchedHand_9 f1_21 sh53 (fun _ _ => rfl) (rf53_6 hR) ?_
  refine go_iconst (v := 0) dX1_matchedHand_12 rfl ?_
  refine gsV2 MJ7_fill_53178 dX1_matchedHand_13 lX1_101 kJ7_fill_53178 sJ7_fill_53178 (Nat.le_of_ble_eq_true rfl) vc ?_
  intro h2 vc
  obtain ⟨hR2, vc⟩ := vc
  replace hR := hR2.trans hR
  refine go_iconst (v := 0) dX1_matchedHand_16 rfl ?_
  refine go_istore_n dX1_matchedHand_17 (Nat.le_of_ble_eq_true rfl) ?_
  show gg p l e s m args below meth c G (d + 1) MX1_matchedHand Q 18 [some (.ref 53), some (.int a1), some (.int 0), none] [] h2
  exact vc
set_option maxRecDepth 20000 in
theorem wX1_matchedHand_18 {p : Program} {l : Launch} {e : Env} {s : State} {m : MethodId} {args : Array Value} {below : List Frame} {meth : Method} {c : Code} {G : gG} {d : Nat} {Q : Option Value → gH → Prop} {h : gH} {lk sp : Nat} {cd : Option Nat} {x1 : Int32} {x2 : Int32} (hR : h.2.2 = gRF lk sp cd) (hlk : lk = 30 ∨ lk = 67) (hsp : sp = 30 ∨ sp = 67)  (vc : ((36 ≤ x2 → gC l G d MX1_handHeldBy [.ref 53, .int x1] h (rI fun v1 h1 => h1.2.2 = (h).2.2 ∧ Q (some (.int v1)) h1)) ∧ (¬ 36 ≤ x2 → gC l G d MX1_findAsking [.ref 53] h (rI fun v2 h2 => h2.2.2 = (h).2.2 ∧ ((¬ v2 = (-1) → gC l G d MX1_askOne [.ref 53, .int v2] h2 (rV fun h3 => h3.2.2 = (h2).2.2 ∧ gg p l e s m args below meth c G (d + 1) MX1_matchedHand Q 18 [some (.ref 53), some (.int x1), some (.int (x2 + 1)), none] [] h3)) ∧ (v2 = (-1) → gC l G d MX1_handHeldBy [.ref 53, .int x1] h2 (rI fun v4 h4 => h4.2.2 = (h2).2.2 ∧ Q (some (.int v4)) h4))))))) : gg p l e s m args below meth c G (d + 1) MX1_matchedHand Q 18 [some (.ref 53), some (.int x1), some (.int x2), none] [] h := by
  refine go_iload_n (x := x2) dX1_matchedHand_18 rfl ?_
  refine go_bipush (v := 36) dX1_matchedHand_19 rfl ?_
  refine go_icmp_ge 48 dX1_matchedHand_21 rfl (fun q => ?_) (fun q => ?_)
  · replace vc := vc.1 q
    refine go_aload_n (x := 53) dX1_matchedHand_48 rfl ?_
    refine go_iload_n (x := x1) dX1_matchedHand_49 rfl ?_
    refine gvI1 MX1_handHeldBy dX1_matchedHand_50 lX1_115 kX1_handHeldBy vX1_handHeldBy sh53 (by decide) rfl (Nat.le_of_ble_eq_true rfl) vc ?_
    intro v1 h1 vc
    obtain ⟨hR1, vc⟩ := vc
    replace hR := hR1.trans hR
    exact go_iret dX1_matchedHand_53 rfl vc rfl (Nat.le_refl _) (Nat.le_refl _)
  · replace vc := vc.2 q
    refine go_aload_n (x := 53) dX1_matchedHand_24 rfl ?_
    refine gvI0 MX1_findAsking dX1_matchedHand_25 lX1_107 kX1_findAsking vX1_findAsking sh53 (by decide) rfl (Nat.le_of_ble_eq_true rfl) vc ?_
    intro v2 h2 vc
    obtain ⟨hR2, vc⟩ := vc
    replace hR := hR2.trans hR
    refine go_istore_n dX1_matchedHand_28 (Nat.le_of_ble_eq_true rfl) ?_
    show gg p l e s m args below meth c G (d + 1) MX1_matchedHand Q 29 [some (.ref 53), some (.int x1), some (.int x2), some (.int v2)] [] h2
    refine go_iload_n (x := v2) dX1_matchedHand_29 rfl ?_
    refine go_iconst (v := (-1)) dX1_matchedHand_30 rfl ?_
    refine go_icmp_ne 37 dX1_matchedHand_31 rfl (fun q => ?_) (fun q => ?_)
    · replace vc := vc.1 q
      refine go_aload_n (x := 53) dX1_matchedHand_37 rfl ?_
      refine go_iload_n (x := v2) dX1_matchedHand_38 rfl ?_
      refine gvV1 MX1_askOne dX1_matchedHand_39 lX1_111 kX1_askOne vX1_askOne sh53 (by decide) rfl (Nat.le_of_ble_eq_true rfl) vc ?_
      intro h3 vc
      obtain ⟨hR3, vc⟩ := vc
      replace hR := hR3.trans hR
      refine go_iinc (x := x2) dX1_matchedHand_42 rfl ?_
      show gg p l e s m args below meth c G (d + 1) MX1_matchedHand Q 45 [some (.ref 53), some (.int x1), some (.int (x2 + 1)), some (.int v2)] [] h3
      refine go_goto 18 dX1_matchedHand_45 rfl ?_
      refine go_weak (ls' := [some (.ref 53), some (.int x1), some (.int (x2 + 1)), none]) ?_ vc
      exact (⟨rfl, ⟨rfl, ⟨rfl, trivial⟩⟩⟩)
    · replace vc := vc.2 q
      refine go_goto 48 dX1_matchedHand_34 rfl ?_
      refine go_aload_n (x := 53) dX1_matchedHand_48 rfl ?_
      refine go_iload_n (x := x1) dX1_matchedHand_49 rfl ?_
      refine gvI1 MX1_handHeldBy dX1_matchedHand_50 lX1_115 kX1_handHeldBy vX1_handHeldBy sh53 (by decide) rfl (Nat.le_of_ble_eq_true rfl) vc ?_
      intro v4 h4 vc
      obtain ⟨hR4, vc⟩ := vc
      replace hR := hR4.trans hR
      exact go_iret dX1_matchedHand_53 rfl vc rfl (Nat.le_refl _) (Nat.le_refl _)
set_option maxRecDepth 20000 in
theorem wX1_handHeldBy_0 {p : Program} {l : Launch} {e : Env} {s : State} {m : MethodId} {args : Array Value} {below : List Frame} {meth : Method} {c : Code} {G : gG} {d : Nat} {Q : Option Value → gH → Prop} {h : gH} {lk sp : Nat} {cd : Option Nat} {a1 : Int32} (hR : h.2.2 = gRF lk sp cd) (hlk : lk = 30 ∨ lk = 67) (hsp : sp = 30 ∨ sp = 67)  (vc : gg p l e s m args below meth c G d MX1_handHeldBy Q 2 [some (.ref 53), some (.int a1), some (.int 0)] [] h) : gg p l e s m args below meth c G d MX1_handHeldBy Q 0 [some (.ref 53), some (.int a1), none] [] h := by
  refine go_iconst (v := 0) dX1_handHeldBy_0 rfl ?_
  refine go_istore_n dX1_handHeldBy_1 (Nat.le_of_ble_eq_true rfl) ?_
  show gg p l e s m args below meth c G d MX1_handHeldBy Q 2 [some (.ref 53), some (.int a1), some (.int 0)] [] h
  exact vc
set_option maxRecDepth 20000 in
theorem wX1_handHeldBy_2 {p : Program} {l : Launch} {e : Env} {s : State} {m : MethodId} {args : Array Value} {below : List Frame} {meth : Method} {c : Code} {G : gG} {d : Nat} {Q : Option Value → gH → Prop} {h : gH} {lk sp : Nat} {cd : Option Nat} {x1 : Int32} {x2 : Int32} (hR : h.2.2 = gRF lk sp cd) (hlk : lk = 30 ∨ lk = 67) (hsp : sp = 30 ∨ sp = 67)  (vc : (((h.1 lk 14) ≤ x2 → Q (some (.int (-1))) h) ∧ (¬ (h.1 lk 14) ≤ x2 → ((6 ≤ x2 → Q (some (.int (-1))) h) ∧ (¬ 6 ≤ x2 → (vp_in x2 6 ∧ ((¬ (h.1 56 x2.toNatClampNeg) = x1 → gg p l e s m args below meth c G d MX1_handHeldBy Q 2 [some (.ref 53), some (.int x1), some (.int (x2 + 1))] [] h) ∧ ((h.1 56 x2.toNatClampNeg) = x1 → Q (some (.int x2)) h)))))))) : gg p l e s m args below meth c G d MX1_handHeldBy Q 2 [some (.ref 53), some (.int x1), some (.int x2)] [] h := by
  refine go_iload_n (x := x2) dX1_handHeldBy_2 rfl ?_
  refine go_aload_n (x := 53) dX1_handHeldBy_3 rfl ?_
  refine go_getR (x := 29) dX1_handHeldBy_4 f1_24 sh53 (fun _ _ => rfl) (rf53_0 hR) ?_
  refine go_getR (x := lk) dX1_handHeldBy_7 f1_35 sh29 (fun _ _ => rfl) (rf29_2 hR) ?_
  refine go_getI' (v := (h.1 lk 14)) dX1_handHeldBy_10 f1_118 (slx hlk) (fun _ _ => rfl) rfl ?_
  refine go_icmp_ge 40 dX1_handHeldBy_13 rfl (fun q => ?_) (fun q => ?_)
  · replace vc := vc.1 q
    refine go_iconst (v := (-1)) dX1_handHeldBy_40 rfl ?_
    exact go_iret dX1_handHeldBy_41 rfl vc rfl (Nat.le_refl _) (Nat.le_refl _)
  · replace vc := vc.2 q
    refine go_iload_n (x := x2) dX1_handHeldBy_16 rfl ?_
    refine go_bipush (v := 6) dX1_handHeldBy_17 rfl ?_
    refine go_icmp_ge 40 dX1_handHeldBy_19 rfl (fun q => ?_) (fun q => ?_)
    · replace vc := vc.1 q
      refine go_iconst (v := (-1)) dX1_handHeldBy_40 rfl ?_
      exact go_iret dX1_handHeldBy_41 rfl vc rfl (Nat.le_refl _) (Nat.le_refl _)
    · replace vc := vc.2 q
      refine go_aload_n (x := 53) dX1_handHeldBy_22 rfl ?_
      refine go_getR (x := 56) dX1_handHeldBy_23 f1_18 sh53 (fun _ _ => rfl) (rf53_5 hR) ?_
      refine go_iload_n (x := x2) dX1_handHeldBy_26 rfl ?_
      refine go_iald' (v := (h.1 56 x2.toNatClampNeg)) dX1_handHeldBy_27 sh56 vc.1 rfl ?_
      have vc := vc.2
      refine go_iload_n (x := x1) dX1_handHeldBy_28 rfl ?_
      refine go_icmp_ne 34 dX1_handHeldBy_29 rfl (fun q => ?_) (fun q => ?_)
      · replace vc := vc.1 q
        refine go_iinc (x := x2) dX1_handHeldBy_34 rfl ?_
        show gg p l e s m args below meth c G d MX1_handHeldBy Q 37 [some (.ref 53), some (.int x1), some (.int (x2 + 1))] [] h
        refine go_goto 2 dX1_handHeldBy_37 rfl ?_
        exact vc
      · replace vc := vc.2 q
        refine go_iload_n (x := x2) dX1_handHeldBy_32 rfl ?_
        exact go_iret dX1_handHeldBy_33 rfl vc rfl (Nat.le_refl _) (Nat.le_refl _)
set_option maxRecDepth 20000 in
theorem wX1_findAsking_0 {p : Program} {l : Launch} {e : Env} {s : State} {m : MethodId} {args : Array Value} {below : List Frame} {meth : Method} {c : Code} {G : gG} {d : Nat} {Q : Option Value → gH → Prop} {h : gH} {lk sp : Nat} {cd : Option Nat}  (hR : h.2.2 = gRF lk sp cd) (hlk : lk = 30 ∨ lk = 67) (hsp : sp = 30 ∨ sp = 67)  (vc : gg p l e s m args below meth c G (d + 1) MX1_findAsking Q 22 [some (.ref 53), some (.int ((1 <<< ((if (h.1 lk 14) < 6 then (h.1 lk 14) else 6) &&& 31)) - 1)), some (.int 0)] [] h) : gg p l e s m args below meth c G (d + 1) MX1_findAsking Q 0 [some (.ref 53), none, none] [] h := by
  refine go_iconst (v := 1) dX1_findAsking_0 rfl ?_
  refine go_bipush (v := 6) dX1_findAsking_1 rfl ?_
  refine go_aload_n (x := 53) dX1_findAsking_3 rfl ?_
  refine go_getR (x := 29) dX1_findAsking_4 f1_24 sh53 (fun _ _ => rfl) (rf53_0 hR) ?_
  refine go_getR (x := lk) dX1_findAsking_7 f1_35 sh29 (fun _ _ => rfl) (rf29_2 hR) ?_
  refine go_getI' (v := (h.1 lk 14)) dX1_findAsking_10 f1_118 (slx hlk) (fun _ _ => rfl) rfl ?_
  refine go_min dX1_findAsking_13 lX1_46 (Nat.le_of_ble_eq_true rfl) ?_
  refine go_ishl dX1_findAsking_16 ?_
  refine go_iconst (v := 1) dX1_findAsking_17 rfl ?_
  refine go_isub dX1_findAsking_18 ?_
  refine go_istore_n dX1_findAsking_19 (Nat.le_of_ble_eq_true rfl) ?_
  show gg p l e s m args below meth c G (d + 1) MX1_findAsking Q 20 [some (.ref 53), some (.int ((1 <<< ((if (h.1 lk 14) < 6 then (h.1 lk 14) else 6) &&& 31)) - 1)), none] [] h
  refine go_iconst (v := 0) dX1_findAsking_20 rfl ?_
  refine go_istore_n dX1_findAsking_21 (Nat.le_of_ble_eq_true rfl) ?_
  show gg p l e s m args below meth c G (d + 1) MX1_findAsking Q 22 [some (.ref 53), some (.int ((1 <<< ((if (h.1 lk 14) < 6 then (h.1 lk 14) else 6) &&& 31)) - 1)), some (.int 0)] [] h
  exact vc
set_option maxRecDepth 20000 in
theorem wX1_findAsking_22 {p : Program} {l : Launch} {e : Env} {s : State} {m : MethodId} {args : Array Value} {below : List Frame} {meth : Method} {c : Code} {G : gG} {d : Nat} {Q : Option Value → gH → Prop} {h : gH} {lk sp : Nat} {cd : Option Nat} {x1 : Int32} {x2 : Int32} (hR : h.2.2 = gRF lk sp cd) (hlk : lk = 30 ∨ lk = 67) (hsp : sp = 30 ∨ sp = 67)  (vc : (((h.1 lk 13) ≤ x2 → Q (some (.int (-1))) h) ∧ (¬ (h.1 lk 13) ≤ x2 → ((6 ≤ x2 → Q (some (.int (-1))) h) ∧ (¬ 6 ≤ x2 → (vp_in x2 6 ∧ (((h.1 57 x2.toNatClampNeg) = x1 → gg p l e s m args below meth c G (d + 1) MX1_findAsking Q 22 [some (.ref 53), some (.int x1), some (.int (x2 + 1))] [] h) ∧ (¬ (h.1 57 x2.toNatClampNeg) = x1 → gC l G d MX1_handHeldBy [.ref 53, .int x2] h (rI fun v1 h1 => h1.2.2 = (h).2.2 ∧ ((¬ v1 = (-1) → gg p l e s m args below meth c G (d + 1) MX1_findAsking Q 22 [some (.ref 53), some (.int x1), some (.int (x2 + 1))] [] h1) ∧ (v1 = (-1) → Q (some (.int x2)) h1))))))))))) : gg p l e s m args below meth c G (d + 1) MX1_findAsking Q 22 [some (.ref 53), some (.int x1), some (.int x2)] [] h := by
  refine go_iload_n (x := x2) dX1_findAsking_22 rfl ?_
  refine go_aload_n (x := 53) dX1_findAsking_23 rfl ?_
  refine go_getR (x := 29) dX1_findAsking_24 f1_24 sh53 (fun _ _ => rfl) (rf53_0 hR) ?_
  refine go_getR (x := lk) dX1_findAsking_27 f1_35 sh29 (fun _ _ => rfl) (rf29_2 hR) ?_
  refine go_getI' (v := (h.1 lk 13)) dX1_findAsking_30 f1_41 (slx hlk) (fun _ _ => rfl) rfl ?_
  refine go_icmp_ge 69 dX1_findAsking_33 rfl (fun q => ?_) (fun q => ?_)
  · replace vc := vc.1 q
    refine go_iconst (v := (-1)) dX1_findAsking_69 rfl ?_
    exact go_iret dX1_findAsking_70 rfl vc rfl (Nat.le_refl _) (Nat.le_refl _)
  · replace vc := vc.2 q
    refine go_iload_n (x := x2) dX1_findAsking_36 rfl ?_
    refine go_bipush (v := 6) dX1_findAsking_37 rfl ?_
    refine go_icmp_ge 69 dX1_findAsking_39 rfl (fun q => ?_) (fun q => ?_)
    · replace vc := vc.1 q
      refine go_iconst (v := (-1)) dX1_findAsking_69 rfl ?_
      exact go_iret dX1_findAsking_70 rfl vc rfl (Nat.le_refl _) (Nat.le_refl _)
    · replace vc := vc.2 q
      refine go_aload_n (x := 53) dX1_findAsking_42 rfl ?_
      refine go_getR (x := 57) dX1_findAsking_43 f1_21 sh53 (fun _ _ => rfl) (rf53_6 hR) ?_
      refine go_iload_n (x := x2) dX1_findAsking_46 rfl ?_
      refine go_iald' (v := (h.1 57 x2.toNatClampNeg)) dX1_findAsking_47 sh57 vc.1 rfl ?_
      have vc := vc.2
      refine go_iload_n (x := x1) dX1_findAsking_48 rfl ?_
      refine go_icmp_eq 63 dX1_findAsking_49 rfl (fun q => ?_) (fun q => ?_)
      · replace vc := vc.1 q
        refine go_iinc (x := x2) dX1_findAsking_63 rfl ?_
        show gg p l e s m args below meth c G (d + 1) MX1_findAsking Q 66 [some (.ref 53), some (.int x1), some (.int (x2 + 1))] [] h
        refine go_goto 22 dX1_findAsking_66 rfl ?_
        exact vc
      · replace vc := vc.2 q
        refine go_aload_n (x := 53) dX1_findAsking_52 rfl ?_
        refine go_iload_n (x := x2) dX1_findAsking_53 rfl ?_
        refine gvI1 MX1_handHeldBy dX1_findAsking_54 lX1_115 kX1_handHeldBy vX1_handHeldBy sh53 (by decide) rfl (Nat.le_of_ble_eq_true rfl) vc ?_
        intro v1 h1 vc
        obtain ⟨hR1, vc⟩ := vc
        replace hR := hR1.trans hR
        refine go_iconst (v := (-1)) dX1_findAsking_57 rfl ?_
        refine go_icmp_ne 63 dX1_findAsking_58 rfl (fun q => ?_) (fun q => ?_)
        · replace vc := vc.1 q
          refine go_iinc (x := x2) dX1_findAsking_63 rfl ?_
          show gg p l e s m args below meth c G (d + 1) MX1_findAsking Q 66 [some (.ref 53), some (.int x1), some (.int (x2 + 1))] [] h1
          refine go_goto 22 dX1_findAsking_66 rfl ?_
          exact vc
        · replace vc := vc.2 q
          refine go_iload_n (x := x2) dX1_findAsking_61 rfl ?_
          exact go_iret dX1_findAsking_62 rfl vc rfl (Nat.le_refl _) (Nat.le_refl _)
set_option maxRecDepth 20000 in
theorem wX1_askOne_0 {p : Program} {l : Launch} {e : Env} {s : State} {m : MethodId} {args : Array Value} {below : List Frame} {meth : Method} {c : Code} {G : gG} {d : Nat} {Q : Option Value → gH → Prop} {h : gH} {lk sp : Nat} {cd : Option Nat} {a1 : Int32} (hR : h.2.2 = gRF lk sp cd) (hlk : lk = 30 ∨ lk = 67) (hsp : sp = 30 ∨ sp = 67)  (vc : gC l G d MX1_bestUnasked [.ref 53, .int a1] h (rI fun v1 h1 => h1.2.2 = (h).2.2 ∧ gC l G d MX4_isBoat [.ref lk, .int a1] h1 (rI fun v2 h2 => h2.2.2 = (h1).2.2 ∧ ((v2 = 0 → Q none h2) ∧ (¬ v2 = 0 → gC l G d MX4_isHand [.ref lk, .int v1] h2 (rI fun v3 h3 => h3.2.2 = (h2).2.2 ∧ ((¬ v3 = 0 → (vp_in a1 6 ∧ (vp_in a1 6 ∧ (vp_in v1 6 ∧ (((h3.1 56 v1.toNatClampNeg) = (-1) → (vp_in v1 6 ∧ Q none (sI (sI h3 57 a1.toNatClampNeg ((h3.1 57 a1.toNatClampNeg) ||| (1 <<< (v1 &&& 31)))) 56 v1.toNatClampNeg a1))) ∧ (¬ (h3.1 56 v1.toNatClampNeg) = (-1) → gC l G d MX1_isRather [.ref 53, .int a1, .int (h3.1 56 v1.toNatClampNeg)] (sI h3 57 a1.toNatClampNeg ((h3.1 57 a1.toNatClampNeg) ||| (1 <<< (v1 &&& 31)))) (rI fun v4 h4 => h4.2.2 = ((sI h3 57 a1.toNatClampNeg ((h3.1 57 a1.toNatClampNeg) ||| (1 <<< (v1 &&& 31))))).2.2 ∧ ((v4 = 0 → Q none h4) ∧ (¬ v4 = 0 → (vp_in v1 6 ∧ Q none (sI h4 56 v1.toNatClampNeg a1))))))))))) ∧ (v3 = 0 → Q none h3)))))))) : gg p l e s m args below meth c G (d + 1) MX1_askOne Q 0 [some (.ref 53), some (.int a1), none, none] [] h := by
  refine go_aload_n (x := 53) dX1_askOne_0 rfl ?_
  refine go_iload_n (x := a1) dX1_askOne_1 rfl ?_
  refine gvI1 MX1_bestUnasked dX1_askOne_2 lX1_121 kX1_bestUnasked vX1_bestUnasked sh53 (by decide) rfl (Nat.le_of_ble_eq_true rfl) vc ?_
  intro v1 h1 vc
  obtain ⟨hR1, vc⟩ := vc
  replace hR := hR1.trans hR
  refine go_istore_n dX1_askOne_5 (Nat.le_of_ble_eq_true rfl) ?_
  show gg p l e s m args below meth c G (d + 1) MX1_askOne Q 6 [some (.ref 53), some (.int a1), some (.int v1), none] [] h1
  refine go_aload_n (x := 53) dX1_askOne_6 rfl ?_
  refine go_getR (x := 29) dX1_askOne_7 f1_24 sh53 (fun _ _ => rfl) (rf53_0 hR) ?_
  refine go_getR (x := lk) dX1_askOne_10 f1_35 sh29 (fun _ _ => rfl) (rf29_2 hR) ?_
  refine go_iload_n (x := a1) dX1_askOne_13 rfl ?_
  refine gvI1 MX4_isBoat dX1_askOne_14 lX1_124 kX4_isBoat vX4_isBoat (slx hlk) (by decide) rfl (Nat.le_of_ble_eq_true rfl) vc ?_
  intro v2 h2 vc
  obtain ⟨hR2, vc⟩ := vc
  replace hR := hR2.trans hR
  refine go_if_eq 34 dX1_askOne_17 rfl (fun q => ?_) (fun q => ?_)
  · replace vc := vc.1 q
    exact go_vret dX1_askOne_34 rfl vc rfl (Nat.le_refl _) (Nat.le_refl _)
  · replace vc := vc.2 q
    refine go_aload_n (x := 53) dX1_askOne_20 rfl ?_
    refine go_getR (x := 29) dX1_askOne_21 f1_24 sh53 (fun _ _ => rfl) (rf53_0 hR) ?_
    refine go_getR (x := lk) dX1_askOne_24 f1_35 sh29 (fun _ _ => rfl) (rf29_2 hR) ?_
    refine go_iload_n (x := v1) dX1_askOne_27 rfl ?_
    refine gvI1 MX4_isHand dX1_askOne_28 lX1_128 kX4_isHand vX4_isHand (slx hlk) (by decide) rfl (Nat.le_of_ble_eq_true rfl) vc ?_
    intro v3 h3 vc
    obtain ⟨hR3, vc⟩ := vc
    replace hR := hR3.trans hR
    refine go_if_ne 35 dX1_askOne_31 rfl (fun q => ?_) (fun q => ?_)
    · replace vc := vc.1 q
      refine go_aload_n (x := 53) dX1_askOne_35 rfl ?_
      refine go_getR (x := 57) dX1_askOne_36 f1_21 sh53 (fun _ _ => rfl) (rf53_6 hR) ?_
      refine go_iload_n (x := a1) dX1_askOne_39 rfl ?_
      refine go_dup2 dX1_askOne_40 rfl rfl ?_
      refine go_iald' (v := (h3.1 57 a1.toNatClampNeg)) dX1_askOne_41 sh57 vc.1 rfl ?_
      have vc := vc.2
      refine go_iconst (v := 1) dX1_askOne_42 rfl ?_
      refine go_iload_n (x := v1) dX1_askOne_43 rfl ?_
      refine go_ishl dX1_askOne_44 ?_
      refine go_ior dX1_askOne_45 ?_
      refine go_iast dX1_askOne_46 sh57 vc.1 ?_
      have vc := vc.2
      show gg p l e s m args below meth c G (d + 1) MX1_askOne Q 47 [some (.ref 53), some (.int a1), some (.int v1), none] [] (sI h3 57 a1.toNatClampNeg ((h3.1 57 a1.toNatClampNeg) ||| (1 <<< (v1 &&& 31))))
      refine go_aload_n (x := 53) dX1_askOne_47 rfl ?_
      refine go_getR (x := 56) dX1_askOne_48 f1_18 sh53 (fun _ _ => rfl) (rf53_5 hR) ?_
      refine go_iload_n (x := v1) dX1_askOne_51 rfl ?_
      refine go_iald' (v := (h3.1 56 v1.toNatClampNeg)) dX1_askOne_52 sh56 vc.1 rfl ?_
      have vc := vc.2
      refine go_istore_n dX1_askOne_53 (Nat.le_of_ble_eq_true rfl) ?_
      show gg p l e s m args below meth c G (d + 1) MX1_askOne Q 54 [some (.ref 53), some (.int a1), some (.int v1), some (.int (h3.1 56 v1.toNatClampNeg))] [] (sI h3 57 a1.toNatClampNeg ((h3.1 57 a1.toNatClampNeg) ||| (1 <<< (v1 &&& 31))))
      refine go_iload_n (x := (h3.1 56 v1.toNatClampNeg)) dX1_askOne_54 rfl ?_
      refine go_iconst (v := (-1)) dX1_askOne_55 rfl ?_
      refine go_icmp_eq 68 dX1_askOne_56 rfl (fun q => ?_) (fun q => ?_)
      · replace vc := vc.1 q
        refine go_aload_n (x := 53) dX1_askOne_68 rfl ?_
        refine go_getR (x := 56) dX1_askOne_69 f1_18 sh53 (fun _ _ => rfl) (rf53_5 hR) ?_
        refine go_iload_n (x := v1) dX1_askOne_72 rfl ?_
        refine go_iload_n (x := a1) dX1_askOne_73 rfl ?_
        refine go_iast dX1_askOne_74 sh56 vc.1 ?_
        have vc := vc.2
        show gg p l e s m args below meth c G (d + 1) MX1_askOne Q 75 [some (.ref 53), some (.int a1), some (.int v1), some (.int (h3.1 56 v1.toNatClampNeg))] [] (sI (sI h3 57 a1.toNatClampNeg ((h3.1 57 a1.toNatClampNeg) ||| (1 <<< (v1 &&& 31)))) 56 v1.toNatClampNeg a1)
        exact go_vret dX1_askOne_75 rfl vc rfl (Nat.le_refl _) (Nat.le_refl _)
      · replace vc := vc.2 q
        refine go_aload_n (x := 53) dX1_askOne_59 rfl ?_
        refine go_iload_n (x := a1) dX1_askOne_60 rfl ?_
        refine go_iload_n (x := (h3.1 56 v1.toNatClampNeg)) dX1_askOne_61 rfl ?_
        refine gvI2 MX1_isRather dX1_askOne_62 lX1_131 kX1_isRather vX1_isRather sh53 (by decide) rfl (Nat.le_of_ble_eq_true rfl) vc ?_
        intro v4 h4 vc
        obtain ⟨hR4, vc⟩ := vc
        replace hR := hR4.trans hR
        refine go_if_eq 75 dX1_askOne_65 rfl (fun q => ?_) (fun q => ?_)
        · replace vc := vc.1 q
          exact go_vret dX1_askOne_75 rfl vc rfl (Nat.le_refl _) (Nat.le_refl _)
        · replace vc := vc.2 q
          refine go_aload_n (x := 53) dX1_askOne_68 rfl ?_
          refine go_getR (x := 56) dX1_askOne_69 f1_18 sh53 (fun _ _ => rfl) (rf53_5 hR) ?_
          refine go_iload_n (x := v1) dX1_askOne_72 rfl ?_
          refine go_iload_n (x := a1) dX1_askOne_73 rfl ?_
          refine go_iast dX1_askOne_74 sh56 vc.1 ?_
          have vc := vc.2
          show gg p l e s m args below meth c G (d + 1) MX1_askOne Q 75 [some (.ref 53), some (.int a1), some (.int v1), some (.int (h3.1 56 v1.toNatClampNeg))] [] (sI h4 56 v1.toNatClampNeg a1)
          exact go_vret dX1_askOne_75 rfl vc rfl (Nat.le_refl _) (Nat.le_refl _)
    · replace vc := vc.2 q
      exact go_vret dX1_askOne_34 rfl vc rfl (Nat.le_refl _) (Nat.le_refl _)
set_option maxRecDepth 20000 in
theorem wX1_isRather_0 {p : Program} {l : Launch} {e : Env} {s : State} {m : MethodId} {args : Array Value} {below : List Frame} {meth : Method} {c : Code} {G : gG} {d : Nat} {Q : Option Value → gH → Prop} {h : gH} {lk sp : Nat} {cd : Option Nat} {a1 : Int32} {a2 : Int32} (hR : h.2.2 = gRF lk sp cd) (hlk : lk = 30 ∨ lk = 67) (hsp : sp = 30 ∨ sp = 67)  (vc : gC l G d MX2_trustOf [.ref 6, .int a1] h (rI fun v1 h1 => h1.2.2 = (h).2.2 ∧ gC l G d MX2_trustOf [.ref 6, .int a2] h1 (rI fun v2 h2 => h2.2.2 = (h1).2.2 ∧ ((0 < (v1 - v2) → Q (some (.int 1)) h2) ∧ (¬ 0 < (v1 - v2) → ((¬ (v1 - v2) = 0 → Q (some (.int 0)) h2) ∧ ((v1 - v2) = 0 → ((a2 ≤ a1 → Q (some (.int 0)) h2) ∧ (¬ a2 ≤ a1 → Q (some (.int 1)) h2))))))))) : gg p l e s m args below meth c G (d + 1) MX1_isRather Q 0 [some (.ref 53), some (.int a1), some (.int a2), none] [] h := by
  refine go_aload_n (x := 53) dX1_isRather_0 rfl ?_
  refine go_getR (x := 29) dX1_isRather_1 f1_24 sh53 (fun _ _ => rfl) (rf53_0 hR) ?_
  refine go_getR (x := 6) dX1_isRather_4 f1_52 sh29 (fun _ _ => rfl) (rf29_0 hR) ?_
  refine go_iload_n (x := a1) dX1_isRather_7 rfl ?_
  refine gvI1 MX2_trustOf dX1_isRather_8 lX1_73 kX2_trustOf vX2_trustOf sh6 (by decide) rfl (Nat.le_of_ble_eq_true rfl) vc ?_
  intro v1 h1 vc
  obtain ⟨hR1, vc⟩ := vc
  replace hR := hR1.trans hR
  refine go_aload_n (x := 53) dX1_isRather_11 rfl ?_
  refine go_getR (x := 29) dX1_isRather_12 f1_24 sh53 (fun _ _ => rfl) (rf53_0 hR) ?_
  refine go_getR (x := 6) dX1_isRather_15 f1_52 sh29 (fun _ _ => rfl) (rf29_0 hR) ?_
  refine go_iload_n (x := a2) dX1_isRather_18 rfl ?_
  refine gvI1 MX2_trustOf dX1_isRather_19 lX1_73 kX2_trustOf vX2_trustOf sh6 (by decide) rfl (Nat.le_of_ble_eq_true rfl) vc ?_
  intro v2 h2 vc
  obtain ⟨hR2, vc⟩ := vc
  replace hR := hR2.trans hR
  refine go_isub dX1_isRather_22 ?_
  refine go_istore_n dX1_isRather_23 (Nat.le_of_ble_eq_true rfl) ?_
  show gg p l e s m args below meth c G (d + 1) MX1_isRather Q 24 [some (.ref 53), some (.int a1), some (.int a2), some (.int (v1 - v2))] [] h2
  refine go_iload_n (x := (v1 - v2)) dX1_isRather_24 rfl ?_
  refine go_if_gt 37 dX1_isRather_25 rfl (fun q => ?_) (fun q => ?_)
  · replace vc := vc.1 q
    refine go_iconst (v := 1) dX1_isRather_37 rfl ?_
    refine go_goto 42 dX1_isRather_38 rfl ?_
    exact go_zret dX1_isRather_42 rfl (by decide) vc rfl (Nat.le_refl _) (Nat.le_refl _)
  · replace vc := vc.2 q
    refine go_iload_n (x := (v1 - v2)) dX1_isRather_28 rfl ?_
    refine go_if_ne 41 dX1_isRather_29 rfl (fun q => ?_) (fun q => ?_)
    · replace vc := vc.1 q
      refine go_iconst (v := 0) dX1_isRather_41 rfl ?_
      exact go_zret dX1_isRather_42 rfl (by decide) vc rfl (Nat.le_refl _) (Nat.le_refl _)
    · replace vc := vc.2 q
      refine go_iload_n (x := a1) dX1_isRather_32 rfl ?_
      refine go_iload_n (x := a2) dX1_isRather_33 rfl ?_
      refine go_icmp_ge 41 dX1_isRather_34 rfl (fun q => ?_) (fun q => ?_)
      · replace vc := vc.1 q
        refine go_iconst (v := 0) dX1_isRather_41 rfl ?_
        exact go_zret dX1_isRather_42 rfl (by decide) vc rfl (Nat.le_refl _) (Nat.le_refl _)
      · replace vc := vc.2 q
        refine go_iconst (v := 1) dX1_isRather_37 rfl ?_
        refine go_goto 42 dX1_isRather_38 rfl ?_
        exact go_zret dX1_isRather_42 rfl (by decide) vc rfl (Nat.le_refl _) (Nat.le_refl _)
set_option maxRecDepth 20000 in
theorem wX1_bestUnasked_0 {p : Program} {l : Launch} {e : Env} {s : State} {m : MethodId} {args : Array Value} {below : List Frame} {meth : Method} {c : Code} {G : gG} {d : Nat} {Q : Option Value → gH → Prop} {h : gH} {lk sp : Nat} {cd : Option Nat} {a1 : Int32} (hR : h.2.2 = gRF lk sp cd) (hlk : lk = 30 ∨ lk = 67) (hsp : sp = 30 ∨ sp = 67)  (vc : gC l G d MX4_isBoat [.ref lk, .int a1] h (rI fun v1 h1 => h1.2.2 = (h).2.2 ∧ ((¬ v1 = 0 → gg p l e s m args below meth c G (d + 1) MX1_bestUnasked Q 20 [some (.ref 53), some (.int a1), some (.int (-1)), some (.int 0), none] [] h1) ∧ (v1 = 0 → Q (some (.int (-1))) h1)))) : gg p l e s m args below meth c G (d + 1) MX1_bestUnasked Q 0 [some (.ref 53), some (.int a1), none, none, none] [] h := by
  refine go_iconst (v := (-1)) dX1_bestUnasked_0 rfl ?_
  refine go_istore_n dX1_bestUnasked_1 (Nat.le_of_ble_eq_true rfl) ?_
  show gg p l e s m args below meth c G (d + 1) MX1_bestUnasked Q 2 [some (.ref 53), some (.int a1), some (.int (-1)), none, none] [] h
  refine go_aload_n (x := 53) dX1_bestUnasked_2 rfl ?_
  refine go_getR (x := 29) dX1_bestUnasked_3 f1_24 sh53 (fun _ _ => rfl) (rf53_0 hR) ?_
  refine go_getR (x := lk) dX1_bestUnasked_6 f1_35 sh29 (fun _ _ => rfl) (rf29_2 hR) ?_
  refine go_iload_n (x := a1) dX1_bestUnasked_9 rfl ?_
  refine gvI1 MX4_isBoat dX1_bestUnasked_10 lX1_124 kX4_isBoat vX4_isBoat (slx hlk) (by decide) rfl (Nat.le_of_ble_eq_true rfl) vc ?_
  intro v1 h1 vc
  obtain ⟨hR1, vc⟩ := vc
  replace hR := hR1.trans hR
  refine go_if_ne 18 dX1_bestUnasked_13 rfl (fun q => ?_) (fun q => ?_)
  · replace vc := vc.1 q
    refine go_iconst (v := 0) dX1_bestUnasked_18 rfl ?_
    refine go_istore_n dX1_bestUnasked_19 (Nat.le_of_ble_eq_true rfl) ?_
    show gg p l e s m args below meth c G (d + 1) MX1_bestUnasked Q 20 [some (.ref 53), some (.int a1), some (.int (-1)), some (.int 0), none] [] h1
    exact vc
  · replace vc := vc.2 q
    refine go_iconst (v := (-1)) dX1_bestUnasked_16 rfl ?_
    exact go_iret dX1_bestUnasked_17 rfl vc rfl (Nat.le_refl _) (Nat.le_refl _)
set_option maxRecDepth 20000 in
theorem wX1_bestUnasked_20 {p : Program} {l : Launch} {e : Env} {s : State} {m : MethodId} {args : Array Value} {below : List Frame} {meth : Method} {c : Code} {G : gG} {d : Nat} {Q : Option Value → gH → Prop} {h : gH} {lk sp : Nat} {cd : Option Nat} {x1 : Int32} {x2 : Int32} {x3 : Int32} (hR : h.2.2 = gRF lk sp cd) (hlk : lk = 30 ∨ lk = 67) (hsp : sp = 30 ∨ sp = 67)  (vc : (((h.1 lk 14) ≤ x3 → Q (some (.int x2)) h) ∧ (¬ (h.1 lk 14) ≤ x3 → ((6 ≤ x3 → Q (some (.int x2)) h) ∧ (¬ 6 ≤ x3 → (vp_in x1 6 ∧ ((¬ (((h.1 57 x1.toNatClampNeg) >>> (x3 &&& 31)) &&& 1) = 0 → gg p l e s m args below meth c G (d + 1) MX1_bestUnasked Q 20 [some (.ref 53), some (.int x1), some (.int x2), some (.int (x3 + 1)), none] [] h) ∧ ((((h.1 57 x1.toNatClampNeg) >>> (x3 &&& 31)) &&& 1) = 0 → ((x2 = (-1) → gg p l e s m args below meth c G (d + 1) MX1_bestUnasked Q 20 [some (.ref 53), some (.int x1), some (.int x3), some (.int (x3 + 1)), none] [] h) ∧ (¬ x2 = (-1) → gC l G d MX4_likingOf [.ref lk, .int x1, .int x3] h (rI fun v1 h1 => h1.2.2 = (h).2.2 ∧ gC l G d MX4_likingOf [.ref lk, .int x1, .int x2] h1 (rI fun v2 h2 => h2.2.2 = (h1).2.2 ∧ ((v1 ≤ v2 → gg p l e s m args below meth c G (d + 1) MX1_bestUnasked Q 20 [some (.ref 53), some (.int x1), some (.int x2), some (.int (x3 + 1)), none] [] h2) ∧ (¬ v1 ≤ v2 → gg p l e s m args below meth c G (d + 1) MX1_bestUnasked Q 20 [some (.ref 53), some (.int x1), some (.int x3), some (.int (x3 + 1)), none] [] h2)))))))))))))) : gg p l e s m args below meth c G (d + 1) MX1_bestUnasked Q 20 [some (.ref 53), some (.int x1), some (.int x2), some (.int x3), none] [] h := by
  refine go_iload_n (x := x3) dX1_bestUnasked_20 rfl ?_
  refine go_aload_n (x := 53) dX1_bestUnasked_21 rfl ?_
  refine go_getR (x := 29) dX1_bestUnasked_22 f1_24 sh53 (fun _ _ => rfl) (rf53_0 hR) ?_
  refine go_getR (x := lk) dX1_bestUnasked_25 f1_35 sh29 (fun _ _ => rfl) (rf29_2 hR) ?_
  refine go_getI' (v := (h.1 lk 14)) dX1_bestUnasked_28 f1_118 (slx hlk) (fun _ _ => rfl) rfl ?_
  refine go_icmp_ge 105 dX1_bestUnasked_31 rfl (fun q => ?_) (fun q => ?_)
  · replace vc := vc.1 q
    refine go_iload_n (x := x2) dX1_bestUnasked_105 rfl ?_
    exact go_iret dX1_bestUnasked_106 rfl vc rfl (Nat.le_refl _) (Nat.le_refl _)
  · replace vc := vc.2 q
    refine go_iload_n (x := x3) dX1_bestUnasked_34 rfl ?_
    refine go_bipush (v := 6) dX1_bestUnasked_35 rfl ?_
    refine go_icmp_ge 105 dX1_bestUnasked_37 rfl (fun q => ?_) (fun q => ?_)
    · replace vc := vc.1 q
      refine go_iload_n (x := x2) dX1_bestUnasked_105 rfl ?_
      exact go_iret dX1_bestUnasked_106 rfl vc rfl (Nat.le_refl _) (Nat.le_refl _)
    · replace vc := vc.2 q
      refine go_aload_n (x := 53) dX1_bestUnasked_40 rfl ?_
      refine go_getR (x := 57) dX1_bestUnasked_41 f1_21 sh53 (fun _ _ => rfl) (rf53_6 hR) ?_
      refine go_iload_n (x := x1) dX1_bestUnasked_44 rfl ?_
      refine go_iald' (v := (h.1 57 x1.toNatClampNeg)) dX1_bestUnasked_45 sh57 vc.1 rfl ?_
      have vc := vc.2
      refine go_iload_n (x := x3) dX1_bestUnasked_46 rfl ?_
      refine go_ishr dX1_bestUnasked_47 ?_
      refine go_iconst (v := 1) dX1_bestUnasked_48 rfl ?_
      refine go_iand dX1_bestUnasked_49 ?_
      refine go_if_ne 57 dX1_bestUnasked_50 rfl (fun q => ?_) (fun q => ?_)
      · replace vc := vc.1 q
        refine go_iconst (v := 0) dX1_bestUnasked_57 rfl ?_
        refine go_istore dX1_bestUnasked_58 (Nat.le_of_ble_eq_true rfl) ?_
        show gg p l e s m args below meth c G (d + 1) MX1_bestUnasked Q 60 [some (.ref 53), some (.int x1), some (.int x2), some (.int x3), some (.int 0)] [] h
        refine go_iload (x := 0) dX1_bestUnasked_60 rfl ?_
        refine go_if_eq 99 dX1_bestUnasked_62 rfl (fun q => ?_) (fun q => absurd q (by decide))
        refine go_iinc (x := x3) dX1_bestUnasked_99 rfl ?_
        show gg p l e s m args below meth c G (d + 1) MX1_bestUnasked Q 102 [some (.ref 53), some (.int x1), some (.int x2), some (.int (x3 + 1)), some (.int 0)] [] h
        refine go_goto 20 dX1_bestUnasked_102 rfl ?_
        refine go_weak (ls' := [some (.ref 53), some (.int x1), some (.int x2), some (.int (x3 + 1)), none]) ?_ vc
        exact (⟨rfl, ⟨rfl, ⟨rfl, ⟨rfl, trivial⟩⟩⟩⟩)
      · replace vc := vc.2 q
        refine go_iconst (v := 1) dX1_bestUnasked_53 rfl ?_
        refine go_goto 58 dX1_bestUnasked_54 rfl ?_
        refine go_istore dX1_bestUnasked_58 (Nat.le_of_ble_eq_true rfl) ?_
        show gg p l e s m args below meth c G (d + 1) MX1_bestUnasked Q 60 [some (.ref 53), some (.int x1), some (.int x2), some (.int x3), some (.int 1)] [] h
        refine go_iload (x := 1) dX1_bestUnasked_60 rfl ?_
        refine go_if_eq 99 dX1_bestUnasked_62 rfl (fun q => absurd q (by decide)) (fun q => ?_)
        refine go_iload_n (x := x2) dX1_bestUnasked_65 rfl ?_
        refine go_iconst (v := (-1)) dX1_bestUnasked_66 rfl ?_
        refine go_icmp_eq 97 dX1_bestUnasked_67 rfl (fun q => ?_) (fun q => ?_)
        · replace vc := vc.1 q
          refine go_iload_n (x := x3) dX1_bestUnasked_97 rfl ?_
          refine go_istore_n dX1_bestUnasked_98 (Nat.le_of_ble_eq_true rfl) ?_
          show gg p l e s m args below meth c G (d + 1) MX1_bestUnasked Q 99 [some (.ref 53), some (.int x1), some (.int x3), some (.int x3), some (.int 1)] [] h
          refine go_iinc (x := x3) dX1_bestUnasked_99 rfl ?_
          show gg p l e s m args below meth c G (d + 1) MX1_bestUnasked Q 102 [some (.ref 53), some (.int x1), some (.int x3), some (.int (x3 + 1)), some (.int 1)] [] h
          refine go_goto 20 dX1_bestUnasked_102 rfl ?_
          refine go_weak (ls' := [some (.ref 53), some (.int x1), some (.int x3), some (.int (x3 + 1)), none]) ?_ vc
          exact (⟨rfl, ⟨rfl, ⟨rfl, ⟨rfl, trivial⟩⟩⟩⟩)
        · replace vc := vc.2 q
          refine go_aload_n (x := 53) dX1_bestUnasked_70 rfl ?_
          refine go_getR (x := 29) dX1_bestUnasked_71 f1_24 sh53 (fun _ _ => rfl) (rf53_0 hR) ?_
          refine go_getR (x := lk) dX1_bestUnasked_74 f1_35 sh29 (fun _ _ => rfl) (rf29_2 hR) ?_
          refine go_iload_n (x := x1) dX1_bestUnasked_77 rfl ?_
          refine go_iload_n (x := x3) dX1_bestUnasked_78 rfl ?_
          refine gvI2 MX4_likingOf dX1_bestUnasked_79 lX1_134 kX4_likingOf vX4_likingOf (slx hlk) (by decide) rfl (Nat.le_of_ble_eq_true rfl) vc ?_
          intro v1 h1 vc
          obtain ⟨hR1, vc⟩ := vc
          replace hR := hR1.trans hR
          refine go_aload_n (x := 53) dX1_bestUnasked_82 rfl ?_
          refine go_getR (x := 29) dX1_bestUnasked_83 f1_24 sh53 (fun _ _ => rfl) (rf53_0 hR) ?_
          refine go_getR (x := lk) dX1_bestUnasked_86 f1_35 sh29 (fun _ _ => rfl) (rf29_2 hR) ?_
          refine go_iload_n (x := x1) dX1_bestUnasked_89 rfl ?_
          refine go_iload_n (x := x2) dX1_bestUnasked_90 rfl ?_
          refine gvI2 MX4_likingOf dX1_bestUnasked_91 lX1_134 kX4_likingOf vX4_likingOf (slx hlk) (by decide) rfl (Nat.le_of_ble_eq_true rfl) vc ?_
          intro v2 h2 vc
          obtain ⟨hR2, vc⟩ := vc
          replace hR := hR2.trans hR
          refine go_icmp_le 99 dX1_bestUnasked_94 rfl (fun q => ?_) (fun q => ?_)
          · replace vc := vc.1 q
            refine go_iinc (x := x3) dX1_bestUnasked_99 rfl ?_
            show gg p l e s m args below meth c G (d + 1) MX1_bestUnasked Q 102 [some (.ref 53), some (.int x1), some (.int x2), some (.int (x3 + 1)), some (.int 1)] [] h2
            refine go_goto 20 dX1_bestUnasked_102 rfl ?_
            refine go_weak (ls' := [some (.ref 53), some (.int x1), some (.int x2), some (.int (x3 + 1)), none]) ?_ vc
            exact (⟨rfl, ⟨rfl, ⟨rfl, ⟨rfl, trivial⟩⟩⟩⟩)
          · replace vc := vc.2 q
            refine go_iload_n (x := x3) dX1_bestUnasked_97 rfl ?_
            refine go_istore_n dX1_bestUnasked_98 (Nat.le_of_ble_eq_true rfl) ?_
            show gg p l e s m args below meth c G (d + 1) MX1_bestUnasked Q 99 [some (.ref 53), some (.int x1), some (.int x3), some (.int x3), some (.int 1)] [] h2
            refine go_iinc (x := x3) dX1_bestUnasked_99 rfl ?_
            show gg p l e s m args below meth c G (d + 1) MX1_bestUnasked Q 102 [some (.ref 53), some (.int x1), some (.int x3), some (.int (x3 + 1)), some (.int 1)] [] h2
            refine go_goto 20 dX1_bestUnasked_102 rfl ?_
            refine go_weak (ls' := [some (.ref 53), some (.int x1), some (.int x3), some (.int (x3 + 1)), none]) ?_ vc
            exact (⟨rfl, ⟨rfl, ⟨rfl, ⟨rfl, trivial⟩⟩⟩⟩)
set_option maxRecDepth 20000 in
theorem wX10_findRoute_0 {p : Program} {l : Launch} {e : Env} {s : State} {m : MethodId} {args : Array Value} {below : List Frame} {meth : Method} {c : Code} {G : gG} {d : Nat} {Q : Option Value → gH → Prop} {h : gH} {lk sp : Nat} {cd : Option Nat} {a1 : Int32} {a2 : Int32} (hR : h.2.2 = gRF lk sp cd) (hlk : lk = 30 ∨ lk = 67) (hsp : sp = 30 ∨ sp = 67)  (vc : gC l G d MX10_readFears [.ref 49, .int a1] h (rV fun h1 => h1.2.2 = (h).2.2 ∧ gC l G d MX2_cellOf [.ref 6, .int a1] h1 (rI fun v2 h2 => h2.2.2 = (h1).2.2 ∧ gC l G d MX4_isCell [.ref lk, .int v2] h2 (rI fun v3 h3 => h3.2.2 = (h2).2.2 ∧ ((v3 = 0 → Q (some (.int (-1))) h3) ∧ (¬ v3 = 0 → gC l G d MX4_isCell [.ref lk, .int a2] h3 (rI fun v4 h4 => h4.2.2 = (h3).2.2 ∧ ((¬ v4 = 0 → ((¬ v2 = a2 → gC l G d MX2_trustOf [.ref 6, .int a1] h4 (rI fun v5 h5 => h5.2.2 = (h4).2.2 ∧ gC l G d MX10_markStepsTo [.ref 49, .int a2, .int v5] h5 (rV fun h6 => h6.2.2 = (h5).2.2 ∧ gC l G d MX10_stepsBeside [.ref 49, .int v2] h6 (rI fun v7 h7 => h7.2.2 = (h6).2.2 ∧ ((v7 < 1000 → gg p l e s m args below meth c G (d + 1) MX10_findRoute Q 97 [some (.ref 49), some (.int a1), some (.int a2), some (.int v2), some (.int v5), some (.int v7), some (.int v2), some (.int 0)] [] h7) ∧ (¬ v7 < 1000 → Q (some (.int (-1))) h7)))))) ∧ (v2 = a2 → Q (some (.int 0)) h4))) ∧ (v4 = 0 → Q (some (.int (-1))) h4))))))))) : gg p l e s m args below meth c G (d + 1) MX10_findRoute Q 0 [some (.ref 49), some (.int a1), some (.int a2), none, none, none, none, none] [] h := by
  refine go_aload_n (x := 49) dX10_findRoute_0 rfl ?_
  refine go_iload_n (x := a1) dX10_findRoute_1 rfl ?_
  refine gvV1 MX10_readFears dX10_findRoute_2 lX10_29 kX10_readFears vX10_readFears sh49 (by decide) rfl (Nat.le_of_ble_eq_true rfl) vc ?_
  intro h1 vc
  obtain ⟨hR1, vc⟩ := vc
  replace hR := hR1.trans hR
  refine go_aload_n (x := 49) dX10_findRoute_5 rfl ?_
  refine go_getR (x := 29) dX10_findRoute_6 f10_21 sh49 (fun _ _ => rfl) (rf49_0 hR) ?_
  refine go_getR (x := 6) dX10_findRoute_9 f10_33 sh29 (fun _ _ => rfl) (rf29_0 hR) ?_
  refine go_iload_n (x := a1) dX10_findRoute_12 rfl ?_
  refine gvI1 MX2_cellOf dX10_findRoute_13 lX10_39 kX2_cellOf vX2_cellOf sh6 (by decide) rfl (Nat.le_of_ble_eq_true rfl) vc ?_
  intro v2 h2 vc
  obtain ⟨hR2, vc⟩ := vc
  replace hR := hR2.trans hR
  refine go_istore_n dX10_findRoute_16 (Nat.le_of_ble_eq_true rfl) ?_
  show gg p l e s m args below meth c G (d + 1) MX10_findRoute Q 17 [some (.ref 49), some (.int a1), some (.int a2), some (.int v2), none, none, none, none] [] h2
  refine go_aload_n (x := 49) dX10_findRoute_17 rfl ?_
  refine go_getR (x := 29) dX10_findRoute_18 f10_21 sh49 (fun _ _ => rfl) (rf49_0 hR) ?_
  refine go_getR (x := lk) dX10_findRoute_21 f10_45 sh29 (fun _ _ => rfl) (rf29_2 hR) ?_
  refine go_iload_n (x := v2) dX10_findRoute_24 rfl ?_
  refine gvI1 MX4_isCell dX10_findRoute_25 lX10_49 kX4_isCell vX4_isCell (slx hlk) (by decide) rfl (Nat.le_of_ble_eq_true rfl) vc ?_
  intro v3 h3 vc
  obtain ⟨hR3, vc⟩ := vc
  replace hR := hR3.trans hR
  refine go_if_eq 45 dX10_findRoute_28 rfl (fun q => ?_) (fun q => ?_)
  · replace vc := vc.1 q
    refine go_iconst (v := (-1)) dX10_findRoute_45 rfl ?_
    exact go_iret dX10_findRoute_46 rfl vc rfl (Nat.le_refl _) (Nat.le_refl _)
  · replace vc := vc.2 q
    refine go_aload_n (x := 49) dX10_findRoute_31 rfl ?_
    refine go_getR (x := 29) dX10_findRoute_32 f10_21 sh49 (fun _ _ => rfl) (rf49_0 hR) ?_
    refine go_getR (x := lk) dX10_findRoute_35 f10_45 sh29 (fun _ _ => rfl) (rf29_2 hR) ?_
    refine go_iload_n (x := a2) dX10_findRoute_38 rfl ?_
    refine gvI1 MX4_isCell dX10_findRoute_39 lX10_49 kX4_isCell vX4_isCell (slx hlk) (by decide) rfl (Nat.le_of_ble_eq_true rfl) vc ?_
    intro v4 h4 vc
    obtain ⟨hR4, vc⟩ := vc
    replace hR := hR4.trans hR
    refine go_if_ne 47 dX10_findRoute_42 rfl (fun q => ?_) (fun q => ?_)
    · replace vc := vc.1 q
      refine go_iload_n (x := v2) dX10_findRoute_47 rfl ?_
      refine go_iload_n (x := a2) dX10_findRoute_48 rfl ?_
      refine go_icmp_ne 54 dX10_findRoute_49 rfl (fun q => ?_) (fun q => ?_)
      · replace vc := vc.1 q
        refine go_aload_n (x := 49) dX10_findRoute_54 rfl ?_
        refine go_getR (x := 29) dX10_findRoute_55 f10_21 sh49 (fun _ _ => rfl) (rf49_0 hR) ?_
        refine go_getR (x := 6) dX10_findRoute_58 f10_33 sh29 (fun _ _ => rfl) (rf29_0 hR) ?_
        refine go_iload_n (x := a1) dX10_findRoute_61 rfl ?_
        refine gvI1 MX2_trustOf dX10_findRoute_62 lX10_55 kX2_trustOf vX2_trustOf sh6 (by decide) rfl (Nat.le_of_ble_eq_true rfl) vc ?_
        intro v5 h5 vc
        obtain ⟨hR5, vc⟩ := vc
        replace hR := hR5.trans hR
        refine go_istore dX10_findRoute_65 (Nat.le_of_ble_eq_true rfl) ?_
        show gg p l e s m args below meth c G (d + 1) MX10_findRoute Q 67 [some (.ref 49), some (.int a1), some (.int a2), some (.int v2), some (.int v5), none, none, none] [] h5
        refine go_aload_n (x := 49) dX10_findRoute_67 rfl ?_
        refine go_iload_n (x := a2) dX10_findRoute_68 rfl ?_
        refine go_iload (x := v5) dX10_findRoute_69 rfl ?_
        refine gvV2 MX10_markStepsTo dX10_findRoute_71 lX10_58 kX10_markStepsTo vX10_markStepsTo sh49 (by decide) rfl (Nat.le_of_ble_eq_true rfl) vc ?_
        intro h6 vc
        obtain ⟨hR6, vc⟩ := vc
        replace hR := hR6.trans hR
        refine go_aload_n (x := 49) dX10_findRoute_74 rfl ?_
        refine go_iload_n (x := v2) dX10_findRoute_75 rfl ?_
        refine gvI1 MX10_stepsBeside dX10_findRoute_76 lX10_62 kX10_stepsBeside vX10_stepsBeside sh49 (by decide) rfl (Nat.le_of_ble_eq_true rfl) vc ?_
        intro v7 h7 vc
        obtain ⟨hR7, vc⟩ := vc
        replace hR := hR7.trans hR
        refine go_istore dX10_findRoute_79 (Nat.le_of_ble_eq_true rfl) ?_
        show gg p l e s m args below meth c G (d + 1) MX10_findRoute Q 81 [some (.ref 49), some (.int a1), some (.int a2), some (.int v2), some (.int v5), some (.int v7), none, none] [] h7
        refine go_iload (x := v7) dX10_findRoute_81 rfl ?_
        refine go_sipush (v := 1000) dX10_findRoute_83 rfl ?_
        refine go_icmp_lt 91 dX10_findRoute_86 rfl (fun q => ?_) (fun q => ?_)
        · replace vc := vc.1 q
          refine go_iload_n (x := v2) dX10_findRoute_91 rfl ?_
          refine go_istore dX10_findRoute_92 (Nat.le_of_ble_eq_true rfl) ?_
          show gg p l e s m args below meth c G (d + 1) MX10_findRoute Q 94 [some (.ref 49), some (.int a1), some (.int a2), some (.int v2), some (.int v5), some (.int v7), some (.int v2), none] [] h7
          refine go_iconst (v := 0) dX10_findRoute_94 rfl ?_
          refine go_istore dX10_findRoute_95 (Nat.le_of_ble_eq_true rfl) ?_
          show gg p l e s m args below meth c G (d + 1) MX10_findRoute Q 97 [some (.ref 49), some (.int a1), some (.int a2), some (.int v2), some (.int v5), some (.int v7), some (.int v2), some (.int 0)] [] h7
          exact vc
        · replace vc := vc.2 q
          refine go_iconst (v := (-1)) dX10_findRoute_89 rfl ?_
          exact go_iret dX10_findRoute_90 rfl vc rfl (Nat.le_refl _) (Nat.le_refl _)
      · replace vc := vc.2 q
        refine go_iconst (v := 0) dX10_findRoute_52 rfl ?_
        exact go_iret dX10_findRoute_53 rfl vc rfl (Nat.le_refl _) (Nat.le_refl _)
    · replace vc := vc.2 q
      refine go_iconst (v := (-1)) dX10_findRoute_45 rfl ?_
      exact go_iret dX10_findRoute_46 rfl vc rfl (Nat.le_refl _) (Nat.le_refl _)
set_option maxRecDepth 20000 in
theorem wX10_findRoute_97 {p : Program} {l : Launch} {e : Env} {s : State} {m : MethodId} {args : Array Value} {below : List Frame} {meth : Method} {c : Code} {G : gG} {d : Nat} {Q : Option Value → gH → Prop} {h : gH} {lk sp : Nat} {cd : Option Nat} {x1 : Int32} {x2 : Int32} {x3 : Int32} {x4 : Int32} {x5 : Int32} {x6 : Int32} {x7 : Int32} (hR : h.2.2 = gRF lk sp cd) (hlk : lk = 30 ∨ lk = 67) (hsp : sp = 30 ∨ sp = 67)  (vc : ((x5 < x7 → Q (some (.int (x5 + 1))) h) ∧ (¬ x5 < x7 → ((48 ≤ x7 → Q (some (.int (x5 + 1))) h) ∧ (¬ 48 ≤ x7 → gC l G d MX10_firstBeside [.ref 49, .int x6, .int (x5 - x7)] h (rI fun v1 h1 => h1.2.2 = (h).2.2 ∧ (vp_in x7 48 ∧ gg p l e s m args below meth c G (d + 1) MX10_findRoute Q 97 [some (.ref 49), some (.int x1), some (.int x2), some (.int x3), some (.int x4), some (.int x5), some (.int v1), some (.int (x7 + 1))] [] (sI h1 52 x7.toNatClampNeg v1)))))))) : gg p l e s m args below meth c G (d + 1) MX10_findRoute Q 97 [some (.ref 49), some (.int x1), some (.int x2), some (.int x3), some (.int x4), some (.int x5), some (.int x6), some (.int x7)] [] h := by
  refine go_iload (x := x7) dX10_findRoute_97 rfl ?_
  refine go_iload (x := x5) dX10_findRoute_99 rfl ?_
  refine go_icmp_gt 139 dX10_findRoute_101 rfl (fun q => ?_) (fun q => ?_)
  · replace vc := vc.1 q
    refine go_iload (x := x5) dX10_findRoute_139 rfl ?_
    refine go_iconst (v := 1) dX10_findRoute_141 rfl ?_
    refine go_iadd dX10_findRoute_142 ?_
    exact go_iret dX10_findRoute_143 rfl vc rfl (Nat.le_refl _) (Nat.le_refl _)
  · replace vc := vc.2 q
    refine go_iload (x := x7) dX10_findRoute_104 rfl ?_
    refine go_bipush (v := 48) dX10_findRoute_106 rfl ?_
    refine go_icmp_ge 139 dX10_findRoute_108 rfl (fun q => ?_) (fun q => ?_)
    · replace vc := vc.1 q
      refine go_iload (x := x5) dX10_findRoute_139 rfl ?_
      refine go_iconst (v := 1) dX10_findRoute_141 rfl ?_
      refine go_iadd dX10_findRoute_142 ?_
      exact go_iret dX10_findRoute_143 rfl vc rfl (Nat.le_refl _) (Nat.le_refl _)
    · replace vc := vc.2 q
      refine go_aload_n (x := 49) dX10_findRoute_111 rfl ?_
      refine go_iload (x := x6) dX10_findRoute_112 rfl ?_
      refine go_iload (x := x5) dX10_findRoute_114 rfl ?_
      refine go_iload (x := x7) dX10_findRoute_116 rfl ?_
      refine go_isub dX10_findRoute_118 ?_
      refine gvI2 MX10_firstBeside dX10_findRoute_119 lX10_65 kX10_firstBeside vX10_firstBeside sh49 (by decide) rfl (Nat.le_of_ble_eq_true rfl) vc ?_
      intro v1 h1 vc
      obtain ⟨hR1, vc⟩ := vc
      replace hR := hR1.trans hR
      refine go_istore dX10_findRoute_122 (Nat.le_of_ble_eq_true rfl) ?_
      show gg p l e s m args below meth c G (d + 1) MX10_findRoute Q 124 [some (.ref 49), some (.int x1), some (.int x2), some (.int x3), some (.int x4), some (.int x5), some (.int v1), some (.int x7)] [] h1
      refine go_aload_n (x := 49) dX10_findRoute_124 rfl ?_
      refine go_getR (x := 52) dX10_findRoute_125 f10_18 sh49 (fun _ _ => rfl) (rf49_3 hR) ?_
      refine go_iload (x := x7) dX10_findRoute_128 rfl ?_
      refine go_iload (x := v1) dX10_findRoute_130 rfl ?_
      refine go_iast dX10_findRoute_132 sh52 vc.1 ?_
      have vc := vc.2
      show gg p l e s m args below meth c G (d + 1) MX10_findRoute Q 133 [some (.ref 49), some (.int x1), some (.int x2), some (.int x3), some (.int x4), some (.int x5), some (.int v1), some (.int x7)] [] (sI h1 52 x7.toNatClampNeg v1)
      refine go_iinc (x := x7) dX10_findRoute_133 rfl ?_
      show gg p l e s m args below meth c G (d + 1) MX10_findRoute Q 136 [some (.ref 49), some (.int x1), some (.int x2), some (.int x3), some (.int x4), some (.int x5), some (.int v1), some (.int (x7 + 1))] [] (sI h1 52 x7.toNatClampNeg v1)
      refine go_goto 97 dX10_findRoute_136 rfl ?_
      exact vc
set_option maxRecDepth 20000 in
theorem wX10_readFears_0 {p : Program} {l : Launch} {e : Env} {s : State} {m : MethodId} {args : Array Value} {below : List Frame} {meth : Method} {c : Code} {G : gG} {d : Nat} {Q : Option Value → gH → Prop} {h : gH} {lk sp : Nat} {cd : Option Nat} {a1 : Int32} (hR : h.2.2 = gRF lk sp cd) (hlk : lk = 30 ∨ lk = 67) (hsp : sp = 30 ∨ sp = 67)  (vc : gg p l e s m args below meth c G (d + 1) MX10_readFears Q 2 [some (.ref 49), some (.int a1), some (.int 0)] [] h) : gg p l e s m args below meth c G (d + 1) MX10_readFears Q 0 [some (.ref 49), some (.int a1), none] [] h := by
  refine go_iconst (v := 0) dX10_readFears_0 rfl ?_
  refine go_istore_n dX10_readFears_1 (Nat.le_of_ble_eq_true rfl) ?_
  show gg p l e s m args below meth c G (d + 1) MX10_readFears Q 2 [some (.ref 49), some (.int a1), some (.int 0)] [] h
  exact vc
set_option maxRecDepth 20000 in
theorem wX10_readFears_2 {p : Program} {l : Launch} {e : Env} {s : State} {m : MethodId} {args : Array Value} {below : List Frame} {meth : Method} {c : Code} {G : gG} {d : Nat} {Q : Option Value → gH → Prop} {h : gH} {lk sp : Nat} {cd : Option Nat} {x1 : Int32} {x2 : Int32} (hR : h.2.2 = gRF lk sp cd) (hlk : lk = 30 ∨ lk = 67) (hsp : sp = 30 ∨ sp = 67)  (vc : gC l G d MX4_cells [.ref lk] h (rI fun v1 h1 => h1.2.2 = (h).2.2 ∧ ((v1 ≤ x2 → Q none h1) ∧ (¬ v1 ≤ x2 → gC l G d MX4_isLand [.ref lk, .int x2] h1 (rI fun v2 h2 => h2.2.2 = (h1).2.2 ∧ ((v2 = 0 → gC l G d MX9_fearOf [.ref 29, .int x1, .int x2, .int (-1)] h2 (rI fun v3 h3 => h3.2.2 = (h2).2.2 ∧ (vp_in x2 48 ∧ gg p l e s m args below meth c G (d + 1) MX10_readFears Q 2 [some (.ref 49), some (.int x1), some (.int (x2 + 1))] [] (sI h3 50 x2.toNatClampNeg v3)))) ∧ (¬ v2 = 0 → (vp_in x2 48 ∧ gg p l e s m args below meth c G (d + 1) MX10_readFears Q 2 [some (.ref 49), some (.int x1), some (.int (x2 + 1))] [] (sI h2 50 x2.toNatClampNeg 99))))))))) : gg p l e s m args below meth c G (d + 1) MX10_readFears Q 2 [some (.ref 49), some (.int x1), some (.int x2)] [] h := by
  refine go_iload_n (x := x2) dX10_readFears_2 rfl ?_
  refine go_aload_n (x := 49) dX10_readFears_3 rfl ?_
  refine go_getR (x := 29) dX10_readFears_4 f10_21 sh49 (fun _ _ => rfl) (rf49_0 hR) ?_
  refine go_getR (x := lk) dX10_readFears_7 f10_45 sh29 (fun _ _ => rfl) (rf29_2 hR) ?_
  refine gvI0 MX4_cells dX10_readFears_10 lX10_69 kX4_cells vX4_cells (slx hlk) (by decide) rfl (Nat.le_of_ble_eq_true rfl) vc ?_
  intro v1 h1 vc
  obtain ⟨hR1, vc⟩ := vc
  replace hR := hR1.trans hR
  refine go_icmp_ge 57 dX10_readFears_13 rfl (fun q => ?_) (fun q => ?_)
  · replace vc := vc.1 q
    exact go_vret dX10_readFears_57 rfl vc rfl (Nat.le_refl _) (Nat.le_refl _)
  · replace vc := vc.2 q
    refine go_aload_n (x := 49) dX10_readFears_16 rfl ?_
    refine go_getR (x := 50) dX10_readFears_17 f10_9 sh49 (fun _ _ => rfl) (rf49_1 hR) ?_
    refine go_iload_n (x := x2) dX10_readFears_20 rfl ?_
    refine go_aload_n (x := 49) dX10_readFears_21 rfl ?_
    refine go_getR (x := 29) dX10_readFears_22 f10_21 sh49 (fun _ _ => rfl) (rf49_0 hR) ?_
    refine go_getR (x := lk) dX10_readFears_25 f10_45 sh29 (fun _ _ => rfl) (rf29_2 hR) ?_
    refine go_iload_n (x := x2) dX10_readFears_28 rfl ?_
    refine gvI1 MX4_isLand dX10_readFears_29 lX10_73 kX4_isLand vX4_isLand (slx hlk) (by decide) rfl (Nat.le_of_ble_eq_true rfl) vc ?_
    intro v2 h2 vc
    obtain ⟨hR2, vc⟩ := vc
    replace hR := hR2.trans hR
    refine go_if_eq 40 dX10_readFears_32 rfl (fun q => ?_) (fun q => ?_)
    · replace vc := vc.1 q
      refine go_aload_n (x := 49) dX10_readFears_40 rfl ?_
      refine go_getR (x := 29) dX10_readFears_41 f10_21 sh49 (fun _ _ => rfl) (rf49_0 hR) ?_
      refine go_iload_n (x := x1) dX10_readFears_44 rfl ?_
      refine go_iload_n (x := x2) dX10_readFears_45 rfl ?_
      refine go_iconst (v := (-1)) dX10_readFears_46 rfl ?_
      refine gvI3 MX9_fearOf dX10_readFears_47 lX10_76 kX9_fearOf vX9_fearOf sh29 (by decide) rfl (Nat.le_of_ble_eq_true rfl) vc ?_
      intro v3 h3 vc
      obtain ⟨hR3, vc⟩ := vc
      replace hR := hR3.trans hR
      refine go_iast dX10_readFears_50 sh50 vc.1 ?_
      have vc := vc.2
      show gg p l e s m args below meth c G (d + 1) MX10_readFears Q 51 [some (.ref 49), some (.int x1), some (.int x2)] [] (sI h3 50 x2.toNatClampNeg v3)
      refine go_iinc (x := x2) dX10_readFears_51 rfl ?_
      show gg p l e s m args below meth c G (d + 1) MX10_readFears Q 54 [some (.ref 49), some (.int x1), some (.int (x2 + 1))] [] (sI h3 50 x2.toNatClampNeg v3)
      refine go_goto 2 dX10_readFears_54 rfl ?_
      exact vc
    · replace vc := vc.2 q
      refine go_bipush (v := 99) dX10_readFears_35 rfl ?_
      refine go_goto 50 dX10_readFears_37 rfl ?_
      refine go_iast dX10_readFears_50 sh50 vc.1 ?_
      have vc := vc.2
      show gg p l e s m args below meth c G (d + 1) MX10_readFears Q 51 [some (.ref 49), some (.int x1), some (.int x2)] [] (sI h2 50 x2.toNatClampNeg 99)
      refine go_iinc (x := x2) dX10_readFears_51 rfl ?_
      show gg p l e s m args below meth c G (d + 1) MX10_readFears Q 54 [some (.ref 49), some (.int x1), some (.int (x2 + 1))] [] (sI h2 50 x2.toNatClampNeg 99)
      refine go_goto 2 dX10_readFears_54 rfl ?_
      exact vc
set_option maxRecDepth 20000 in
theorem wX10_markStepsTo_0 {p : Program} {l : Launch} {e : Env} {s : State} {m : MethodId} {args : Array Value} {below : List Frame} {meth : Method} {c : Code} {G : gG} {d : Nat} {Q : Option Value → gH → Prop} {h : gH} {lk sp : Nat} {cd : Option Nat} {a1 : Int32} {a2 : Int32} (hR : h.2.2 = gRF lk sp cd) (hlk : lk = 30 ∨ lk = 67) (hsp : sp = 30 ∨ sp = 67)  (vc : gC l G d MJ7_fill_53178 [.ref 51, .int 1000] h (rV fun h1 => h1.2.2 = (h).2.2 ∧ gC l G d MX10_isEasy [.ref 49, .int a1, .int a2] h1 (rI fun v2 h2 => h2.2.2 = (h1).2.2 ∧ ((¬ v2 = 0 → (vp_in a1 48 ∧ gg p l e s m args below meth c G (d + 1) MX10_markStepsTo Q 32 [some (.ref 49), some (.int a1), some (.int a2), some (.int 1), some (.int 0), none, none] [] (sI h2 51 a1.toNatClampNeg 0))) ∧ (v2 = 0 → Q none h2))))) : gg p l e s m args below meth c G (d + 1) MX10_markStepsTo Q 0 [some (.ref 49), some (.int a1), some (.int a2), none, none, none, none] [] h := by
  refine go_aload_n (x := 49) dX10_markStepsTo_0 rfl ?_
  refine go_getR (x := 51) dX10_markStepsTo_1 f10_15 sh49 (fun _ _ => rfl) (rf49_2 hR) ?_
  refine go_sipush (v := 1000) dX10_markStepsTo_4 rfl ?_
  refine gsV2 MJ7_fill_53178 dX10_markStepsTo_7 lX10_80 kJ7_fill_53178 sJ7_fill_53178 (Nat.le_of_ble_eq_true rfl) vc ?_
  intro h1 vc
  obtain ⟨hR1, vc⟩ := vc
  replace hR := hR1.trans hR
  refine go_aload_n (x := 49) dX10_markStepsTo_10 rfl ?_
  refine go_iload_n (x := a1) dX10_markStepsTo_11 rfl ?_
  refine go_iload_n (x := a2) dX10_markStepsTo_12 rfl ?_
  refine gvI2 MX10_isEasy dX10_markStepsTo_13 lX10_86 kX10_isEasy vX10_isEasy sh49 (by decide) rfl (Nat.le_of_ble_eq_true rfl) vc ?_
  intro v2 h2 vc
  obtain ⟨hR2, vc⟩ := vc
  replace hR := hR2.trans hR
  refine go_if_ne 20 dX10_markStepsTo_16 rfl (fun q => ?_) (fun q => ?_)
  · replace vc := vc.1 q
    refine go_aload_n (x := 49) dX10_markStepsTo_20 rfl ?_
    refine go_getR (x := 51) dX10_markStepsTo_21 f10_15 sh49 (fun _ _ => rfl) (rf49_2 hR) ?_
    refine go_iload_n (x := a1) dX10_markStepsTo_24 rfl ?_
    refine go_iconst (v := 0) dX10_markStepsTo_25 rfl ?_
    refine go_iast dX10_markStepsTo_26 sh51 vc.1 ?_
    have vc := vc.2
    show gg p l e s m args below meth c G (d + 1) MX10_markStepsTo Q 27 [some (.ref 49), some (.int a1), some (.int a2), none, none, none, none] [] (sI h2 51 a1.toNatClampNeg 0)
    refine go_iconst (v := 1) dX10_markStepsTo_27 rfl ?_
    refine go_istore_n dX10_markStepsTo_28 (Nat.le_of_ble_eq_true rfl) ?_
    show gg p l e s m args below meth c G (d + 1) MX10_markStepsTo Q 29 [some (.ref 49), some (.int a1), some (.int a2), some (.int 1), none, none, none] [] (sI h2 51 a1.toNatClampNeg 0)
    refine go_iconst (v := 0) dX10_markStepsTo_29 rfl ?_
    refine go_istore dX10_markStepsTo_30 (Nat.le_of_ble_eq_true rfl) ?_
    show gg p l e s m args below meth c G (d + 1) MX10_markStepsTo Q 32 [some (.ref 49), some (.int a1), some (.int a2), some (.int 1), some (.int 0), none, none] [] (sI h2 51 a1.toNatClampNeg 0)
    exact vc
  · replace vc := vc.2 q
    exact go_vret dX10_markStepsTo_19 rfl vc rfl (Nat.le_refl _) (Nat.le_refl _)
set_option maxRecDepth 20000 in
theorem wX10_markStepsTo_32 {p : Program} {l : Launch} {e : Env} {s : State} {m : MethodId} {args : Array Value} {below : List Frame} {meth : Method} {c : Code} {G : gG} {d : Nat} {Q : Option Value → gH → Prop} {h : gH} {lk sp : Nat} {cd : Option Nat} {x1 : Int32} {x2 : Int32} {x3 : Int32} {x4 : Int32} (hR : h.2.2 = gRF lk sp cd) (hlk : lk = 30 ∨ lk = 67) (hsp : sp = 30 ∨ sp = 67)  (vc : ((48 ≤ x4 → Q none h) ∧ (¬ 48 ≤ x4 → ((x3 = 0 → Q none h) ∧ (¬ x3 = 0 → gg p l e s m args below meth c G (d + 1) MX10_markStepsTo Q 48 [some (.ref 49), some (.int x1), some (.int x2), some (.int 0), some (.int x4), some (.int 0), none] [] h))))) : gg p l e s m args below meth c G (d + 1) MX10_markStepsTo Q 32 [some (.ref 49), some (.int x1), some (.int x2), some (.int x3), some (.int x4), none, none] [] h := by
  refine go_iload (x := x4) dX10_markStepsTo_32 rfl ?_
  refine go_bipush (v := 48) dX10_markStepsTo_34 rfl ?_
  refine go_icmp_ge 124 dX10_markStepsTo_36 rfl (fun q => ?_) (fun q => ?_)
  · replace vc := vc.1 q
    exact go_vret dX10_markStepsTo_124 rfl vc rfl (Nat.le_refl _) (Nat.le_refl _)
  · replace vc := vc.2 q
    refine go_iload_n (x := x3) dX10_markStepsTo_39 rfl ?_
    refine go_if_eq 124 dX10_markStepsTo_40 rfl (fun q => ?_) (fun q => ?_)
    · replace vc := vc.1 q
      exact go_vret dX10_markStepsTo_124 rfl vc rfl (Nat.le_refl _) (Nat.le_refl _)
    · replace vc := vc.2 q
      refine go_iconst (v := 0) dX10_markStepsTo_43 rfl ?_
      refine go_istore_n dX10_markStepsTo_44 (Nat.le_of_ble_eq_true rfl) ?_
      show gg p l e s m args below meth c G (d + 1) MX10_markStepsTo Q 45 [some (.ref 49), some (.int x1), some (.int x2), some (.int 0), some (.int x4), none, none] [] h
      refine go_iconst (v := 0) dX10_markStepsTo_45 rfl ?_
      refine go_istore dX10_markStepsTo_46 (Nat.le_of_ble_eq_true rfl) ?_
      show gg p l e s m args below meth c G (d + 1) MX10_markStepsTo Q 48 [some (.ref 49), some (.int x1), some (.int x2), some (.int 0), some (.int x4), some (.int 0), none] [] h
      exact vc
set_option maxRecDepth 20000 in
theorem wX10_markStepsTo_48 {p : Program} {l : Launch} {e : Env} {s : State} {m : MethodId} {args : Array Value} {below : List Frame} {meth : Method} {c : Code} {G : gG} {d : Nat} {Q : Option Value → gH → Prop} {h : gH} {lk sp : Nat} {cd : Option Nat} {x1 : Int32} {x2 : Int32} {x3 : Int32} {x4 : Int32} {x5 : Int32} (hR : h.2.2 = gRF lk sp cd) (hlk : lk = 30 ∨ lk = 67) (hsp : sp = 30 ∨ sp = 67)  (vc : gC l G d MX4_cells [.ref lk] h (rI fun v1 h1 => h1.2.2 = (h).2.2 ∧ ((v1 ≤ x5 → gg p l e s m args below meth c G (d + 1) MX10_markStepsTo Q 32 [some (.ref 49), some (.int x1), some (.int x2), some (.int x3), some (.int (x4 + 1)), none, none] [] h1) ∧ (¬ v1 ≤ x5 → gC l G d MX10_isEasy [.ref 49, .int x5, .int x2] h1 (rI fun v2 h2 => h2.2.2 = (h1).2.2 ∧ ((v2 = 0 → (vp_in x5 48 ∧ (((h2.1 51 x5.toNatClampNeg) ≤ 1000 → gg p l e s m args below meth c G (d + 1) MX10_markStepsTo Q 48 [some (.ref 49), some (.int x1), some (.int x2), some (.int x3), some (.int x4), some (.int (x5 + 1)), none] [] h2) ∧ (¬ (h2.1 51 x5.toNatClampNeg) ≤ 1000 → (vp_in x5 48 ∧ gg p l e s m args below meth c G (d + 1) MX10_markStepsTo Q 48 [some (.ref 49), some (.int x1), some (.int x2), some (.int 1), some (.int x4), some (.int (x5 + 1)), none] [] (sI h2 51 x5.toNatClampNeg 1000)))))) ∧ (¬ v2 = 0 → gC l G d MX10_stepsBeside [.ref 49, .int x5] h2 (rI fun v3 h3 => h3.2.2 = (h2).2.2 ∧ (vp_in x5 48 ∧ (((h3.1 51 x5.toNatClampNeg) ≤ (v3 + 1) → gg p l e s m args below meth c G (d + 1) MX10_markStepsTo Q 48 [some (.ref 49), some (.int x1), some (.int x2), some (.int x3), some (.int x4), some (.int (x5 + 1)), none] [] h3) ∧ (¬ (h3.1 51 x5.toNatClampNeg) ≤ (v3 + 1) → (vp_in x5 48 ∧ gg p l e s m args below meth c G (d + 1) MX10_markStepsTo Q 48 [some (.ref 49), some (.int x1), some (.int x2), some (.int 1), some (.int x4), some (.int (x5 + 1)), none] [] (sI h3 51 x5.toNatClampNeg (v3 + 1)))))))))))))) : gg p l e s m args below meth c G (d + 1) MX10_markStepsTo Q 48 [some (.ref 49), some (.int x1), some (.int x2), some (.int x3), some (.int x4), some (.int x5), none] [] h := by
  refine go_iload (x := x5) dX10_markStepsTo_48 rfl ?_
  refine go_aload_n (x := 49) dX10_markStepsTo_50 rfl ?_
  refine go_getR (x := 29) dX10_markStepsTo_51 f10_21 sh49 (fun _ _ => rfl) (rf49_0 hR) ?_
  refine go_getR (x := lk) dX10_markStepsTo_54 f10_45 sh29 (fun _ _ => rfl) (rf29_2 hR) ?_
  refine gvI0 MX4_cells dX10_markStepsTo_57 lX10_69 kX4_cells vX4_cells (slx hlk) (by decide) rfl (Nat.le_of_ble_eq_true rfl) vc ?_
  intro v1 h1 vc
  obtain ⟨hR1, vc⟩ := vc
  replace hR := hR1.trans hR
  refine go_icmp_ge 118 dX10_markStepsTo_60 rfl (fun q => ?_) (fun q => ?_)
  · replace vc := vc.1 q
    refine go_iinc (x := x4) dX10_markStepsTo_118 rfl ?_
    show gg p l e s m args below meth c G (d + 1) MX10_markStepsTo Q 121 [some (.ref 49), some (.int x1), some (.int x2), some (.int x3), some (.int (x4 + 1)), some (.int x5), none] [] h1
    refine go_goto 32 dX10_markStepsTo_121 rfl ?_
    refine go_weak (ls' := [some (.ref 49), some (.int x1), some (.int x2), some (.int x3), some (.int (x4 + 1)), none, none]) ?_ vc
    exact (⟨rfl, ⟨rfl, ⟨rfl, ⟨rfl, ⟨rfl, trivial⟩⟩⟩⟩⟩)
  · replace vc := vc.2 q
    refine go_aload_n (x := 49) dX10_markStepsTo_63 rfl ?_
    refine go_iload (x := x5) dX10_markStepsTo_64 rfl ?_
    refine go_iload_n (x := x2) dX10_markStepsTo_66 rfl ?_
    refine gvI2 MX10_isEasy dX10_markStepsTo_67 lX10_86 kX10_isEasy vX10_isEasy sh49 (by decide) rfl (Nat.le_of_ble_eq_true rfl) vc ?_
    intro v2 h2 vc
    obtain ⟨hR2, vc⟩ := vc
    replace hR := hR2.trans hR
    refine go_if_eq 84 dX10_markStepsTo_70 rfl (fun q => ?_) (fun q => ?_)
    · replace vc := vc.1 q
      refine go_sipush (v := 1000) dX10_markStepsTo_84 rfl ?_
      refine go_istore dX10_markStepsTo_87 (Nat.le_of_ble_eq_true rfl) ?_
      show gg p l e s m args below meth c G (d + 1) MX10_markStepsTo Q 89 [some (.ref 49), some (.int x1), some (.int x2), some (.int x3), some (.int x4), some (.int x5), some (.int 1000)] [] h2
      refine go_iload (x := 1000) dX10_markStepsTo_89 rfl ?_
      refine go_aload_n (x := 49) dX10_markStepsTo_91 rfl ?_
      refine go_getR (x := 51) dX10_markStepsTo_92 f10_15 sh49 (fun _ _ => rfl) (rf49_2 hR) ?_
      refine go_iload (x := x5) dX10_markStepsTo_95 rfl ?_
      refine go_iald' (v := (h2.1 51 x5.toNatClampNeg)) dX10_markStepsTo_97 sh51 vc.1 rfl ?_
      have vc := vc.2
      refine go_icmp_ge 112 dX10_markStepsTo_98 rfl (fun q => ?_) (fun q => ?_)
      · replace vc := vc.1 q
        refine go_iinc (x := x5) dX10_markStepsTo_112 rfl ?_
        show gg p l e s m args below meth c G (d + 1) MX10_markStepsTo Q 115 [some (.ref 49), some (.int x1), some (.int x2), some (.int x3), some (.int x4), some (.int (x5 + 1)), some (.int 1000)] [] h2
        refine go_goto 48 dX10_markStepsTo_115 rfl ?_
        refine go_weak (ls' := [some (.ref 49), some (.int x1), some (.int x2), some (.int x3), some (.int x4), some (.int (x5 + 1)), none]) ?_ vc
        exact (⟨rfl, ⟨rfl, ⟨rfl, ⟨rfl, ⟨rfl, ⟨rfl, trivial⟩⟩⟩⟩⟩⟩)
      · replace vc := vc.2 q
        refine go_aload_n (x := 49) dX10_markStepsTo_101 rfl ?_
        refine go_getR (x := 51) dX10_markStepsTo_102 f10_15 sh49 (fun _ _ => rfl) (rf49_2 hR) ?_
        refine go_iload (x := x5) dX10_markStepsTo_105 rfl ?_
        refine go_iload (x := 1000) dX10_markStepsTo_107 rfl ?_
        refine go_iast dX10_markStepsTo_109 sh51 vc.1 ?_
        have vc := vc.2
        show gg p l e s m args below meth c G (d + 1) MX10_markStepsTo Q 110 [some (.ref 49), some (.int x1), some (.int x2), some (.int x3), some (.int x4), some (.int x5), some (.int 1000)] [] (sI h2 51 x5.toNatClampNeg 1000)
        refine go_iconst (v := 1) dX10_markStepsTo_110 rfl ?_
        refine go_istore_n dX10_markStepsTo_111 (Nat.le_of_ble_eq_true rfl) ?_
        show gg p l e s m args below meth c G (d + 1) MX10_markStepsTo Q 112 [some (.ref 49), some (.int x1), some (.int x2), some (.int 1), some (.int x4), some (.int x5), some (.int 1000)] [] (sI h2 51 x5.toNatClampNeg 1000)
        refine go_iinc (x := x5) dX10_markStepsTo_112 rfl ?_
        show gg p l e s m args below meth c G (d + 1) MX10_markStepsTo Q 115 [some (.ref 49), some (.int x1), some (.int x2), some (.int 1), some (.int x4), some (.int (x5 + 1)), some (.int 1000)] [] (sI h2 51 x5.toNatClampNeg 1000)
        refine go_goto 48 dX10_markStepsTo_115 rfl ?_
        refine go_weak (ls' := [some (.ref 49), some (.int x1), some (.int x2), some (.int 1), some (.int x4), some (.int (x5 + 1)), none]) ?_ vc
        exact (⟨rfl, ⟨rfl, ⟨rfl, ⟨rfl, ⟨rfl, ⟨rfl, trivial⟩⟩⟩⟩⟩⟩)
    · replace vc := vc.2 q
      refine go_aload_n (x := 49) dX10_markStepsTo_73 rfl ?_
      refine go_iload (x := x5) dX10_markStepsTo_74 rfl ?_
      refine gvI1 MX10_stepsBeside dX10_markStepsTo_76 lX10_62 kX10_stepsBeside vX10_stepsBeside sh49 (by decide) rfl (Nat.le_of_ble_eq_true rfl) vc ?_
      intro v3 h3 vc
      obtain ⟨hR3, vc⟩ := vc
      replace hR := hR3.trans hR
      refine go_iconst (v := 1) dX10_markStepsTo_79 rfl ?_
      refine go_iadd dX10_markStepsTo_80 ?_
      refine go_goto 87 dX10_markStepsTo_81 rfl ?_
      refine go_istore dX10_markStepsTo_87 (Nat.le_of_ble_eq_true rfl) ?_
      show gg p l e s m args below meth c G (d + 1) MX10_markStepsTo Q 89 [some (.ref 49), some (.int x1), some (.int x2), some (.int x3), some (.int x4), some (.int x5), some (.int (v3 + 1))] [] h3
      refine go_iload (x := (v3 + 1)) dX10_markStepsTo_89 rfl ?_
      refine go_aload_n (x := 49) dX10_markStepsTo_91 rfl ?_
      refine go_getR (x := 51) dX10_markStepsTo_92 f10_15 sh49 (fun _ _ => rfl) (rf49_2 hR) ?_
      refine go_iload (x := x5) dX10_markStepsTo_95 rfl ?_
      refine go_iald' (v := (h3.1 51 x5.toNatClampNeg)) dX10_markStepsTo_97 sh51 vc.1 rfl ?_
      have vc := vc.2
      refine go_icmp_ge 112 dX10_markStepsTo_98 rfl (fun q => ?_) (fun q => ?_)
      · replace vc := vc.1 q
        refine go_iinc (x := x5) dX10_markStepsTo_112 rfl ?_
        show gg p l e s m args below meth c G (d + 1) MX10_markStepsTo Q 115 [some (.ref 49), some (.int x1), some (.int x2), some (.int x3), some (.int x4), some (.int (x5 + 1)), some (.int (v3 + 1))] [] h3
        refine go_goto 48 dX10_markStepsTo_115 rfl ?_
        refine go_weak (ls' := [some (.ref 49), some (.int x1), some (.int x2), some (.int x3), some (.int x4), some (.int (x5 + 1)), none]) ?_ vc
        exact (⟨rfl, ⟨rfl, ⟨rfl, ⟨rfl, ⟨rfl, ⟨rfl, trivial⟩⟩⟩⟩⟩⟩)
      · replace vc := vc.2 q
        refine go_aload_n (x := 49) dX10_markStepsTo_101 rfl ?_
        refine go_getR (x := 51) dX10_markStepsTo_102 f10_15 sh49 (fun _ _ => rfl) (rf49_2 hR) ?_
        refine go_iload (x := x5) dX10_markStepsTo_105 rfl ?_
        refine go_iload (x := (v3 + 1)) dX10_markStepsTo_107 rfl ?_
        refine go_iast dX10_markStepsTo_109 sh51 vc.1 ?_
        have vc := vc.2
        show gg p l e s m args below meth c G (d + 1) MX10_markStepsTo Q 110 [some (.ref 49), some (.int x1), some (.int x2), some (.int x3), some (.int x4), some (.int x5), some (.int (v3 + 1))] [] (sI h3 51 x5.toNatClampNeg (v3 + 1))
        refine go_iconst (v := 1) dX10_markStepsTo_110 rfl ?_
        refine go_istore_n dX10_markStepsTo_111 (Nat.le_of_ble_eq_true rfl) ?_
        show gg p l e s m args below meth c G (d + 1) MX10_markStepsTo Q 112 [some (.ref 49), some (.int x1), some (.int x2), some (.int 1), some (.int x4), some (.int x5), some (.int (v3 + 1))] [] (sI h3 51 x5.toNatClampNeg (v3 + 1))
        refine go_iinc (x := x5) dX10_markStepsTo_112 rfl ?_
        show gg p l e s m args below meth c G (d + 1) MX10_markStepsTo Q 115 [some (.ref 49), some (.int x1), some (.int x2), some (.int 1), some (.int x4), some (.int (x5 + 1)), some (.int (v3 + 1))] [] (sI h3 51 x5.toNatClampNeg (v3 + 1))
        refine go_goto 48 dX10_markStepsTo_115 rfl ?_
        refine go_weak (ls' := [some (.ref 49), some (.int x1), some (.int x2), some (.int 1), some (.int x4), some (.int (x5 + 1)), none]) ?_ vc
        exact (⟨rfl, ⟨rfl, ⟨rfl, ⟨rfl, ⟨rfl, ⟨rfl, trivial⟩⟩⟩⟩⟩⟩)
set_option maxRecDepth 20000 in
theorem wX10_isEasy_0 {p : Program} {l : Launch} {e : Env} {s : State} {m : MethodId} {args : Array Value} {below : List Frame} {meth : Method} {c : Code} {G : gG} {d : Nat} {Q : Option Value → gH → Prop} {h : gH} {lk sp : Nat} {cd : Option Nat} {a1 : Int32} {a2 : Int32} (hR : h.2.2 = gRF lk sp cd) (hlk : lk = 30 ∨ lk = 67) (hsp : sp = 30 ∨ sp = 67)  (vc : gC l G d MX4_isWater [.ref lk, .int a1] h (rI fun v1 h1 => h1.2.2 = (h).2.2 ∧ ((v1 = 0 → Q (some (.int 0)) h1) ∧ (¬ v1 = 0 → (vp_in a1 48 ∧ ((a2 < (h1.1 50 a1.toNatClampNeg) → Q (some (.int 0)) h1) ∧ (¬ a2 < (h1.1 50 a1.toNatClampNeg) → Q (some (.int 1)) h1))))))) : gg p l e s m args below meth c G (d + 1) MX10_isEasy Q 0 [some (.ref 49), some (.int a1), some (.int a2)] [] h := by
  refine go_aload_n (x := 49) dX10_isEasy_0 rfl ?_
  refine go_getR (x := 29) dX10_isEasy_1 f10_21 sh49 (fun _ _ => rfl) (rf49_0 hR) ?_
  refine go_getR (x := lk) dX10_isEasy_4 f10_45 sh29 (fun _ _ => rfl) (rf29_2 hR) ?_
  refine go_iload_n (x := a1) dX10_isEasy_7 rfl ?_
  refine gvI1 MX4_isWater dX10_isEasy_8 lX10_90 kX4_isWater vX4_isWater (slx hlk) (by decide) rfl (Nat.le_of_ble_eq_true rfl) vc ?_
  intro v1 h1 vc
  obtain ⟨hR1, vc⟩ := vc
  replace hR := hR1.trans hR
  refine go_if_eq 28 dX10_isEasy_11 rfl (fun q => ?_) (fun q => ?_)
  · replace vc := vc.1 q
    refine go_iconst (v := 0) dX10_isEasy_28 rfl ?_
    exact go_zret dX10_isEasy_29 rfl (by decide) vc rfl (Nat.le_refl _) (Nat.le_refl _)
  · replace vc := vc.2 q
    refine go_aload_n (x := 49) dX10_isEasy_14 rfl ?_
    refine go_getR (x := 50) dX10_isEasy_15 f10_9 sh49 (fun _ _ => rfl) (rf49_1 hR) ?_
    refine go_iload_n (x := a1) dX10_isEasy_18 rfl ?_
    refine go_iald' (v := (h1.1 50 a1.toNatClampNeg)) dX10_isEasy_19 sh50 vc.1 rfl ?_
    have vc := vc.2
    refine go_iload_n (x := a2) dX10_isEasy_20 rfl ?_
    refine go_icmp_gt 28 dX10_isEasy_21 rfl (fun q => ?_) (fun q => ?_)
    · replace vc := vc.1 q
      refine go_iconst (v := 0) dX10_isEasy_28 rfl ?_
      exact go_zret dX10_isEasy_29 rfl (by decide) vc rfl (Nat.le_refl _) (Nat.le_refl _)
    · replace vc := vc.2 q
      refine go_iconst (v := 1) dX10_isEasy_24 rfl ?_
      refine go_goto 29 dX10_isEasy_25 rfl ?_
      exact go_zret dX10_isEasy_29 rfl (by decide) vc rfl (Nat.le_refl _) (Nat.le_refl _)
set_option maxRecDepth 20000 in
theorem wX10_stepsBeside_0 {p : Program} {l : Launch} {e : Env} {s : State} {m : MethodId} {args : Array Value} {below : List Frame} {meth : Method} {c : Code} {G : gG} {d : Nat} {Q : Option Value → gH → Prop} {h : gH} {lk sp : Nat} {cd : Option Nat} {a1 : Int32} (hR : h.2.2 = gRF lk sp cd) (hlk : lk = 30 ∨ lk = 67) (hsp : sp = 30 ∨ sp = 67)  (vc : gg p l e s m args below meth c G (d + 1) MX10_stepsBeside Q 6 [some (.ref 49), some (.int a1), some (.int 1000), some (.int 0), none] [] h) : gg p l e s m args below meth c G (d + 1) MX10_stepsBeside Q 0 [some (.ref 49), some (.int a1), none, none, none] [] h := by
  refine go_sipush (v := 1000) dX10_stepsBeside_0 rfl ?_
  refine go_istore_n dX10_stepsBeside_3 (Nat.le_of_ble_eq_true rfl) ?_
  show gg p l e s m args below meth c G (d + 1) MX10_stepsBeside Q 4 [some (.ref 49), some (.int a1), some (.int 1000), none, none] [] h
  refine go_iconst (v := 0) dX10_stepsBeside_4 rfl ?_
  refine go_istore_n dX10_stepsBeside_5 (Nat.le_of_ble_eq_true rfl) ?_
  show gg p l e s m args below meth c G (d + 1) MX10_stepsBeside Q 6 [some (.ref 49), some (.int a1), some (.int 1000), some (.int 0), none] [] h
  exact vc
set_option maxRecDepth 20000 in
theorem wX10_stepsBeside_6 {p : Program} {l : Launch} {e : Env} {s : State} {m : MethodId} {args : Array Value} {below : List Frame} {meth : Method} {c : Code} {G : gG} {d : Nat} {Q : Option Value → gH → Prop} {h : gH} {lk sp : Nat} {cd : Option Nat} {x1 : Int32} {x2 : Int32} {x3 : Int32} (hR : h.2.2 = gRF lk sp cd) (hlk : lk = 30 ∨ lk = 67) (hsp : sp = 30 ∨ sp = 67)  (vc : ((4 ≤ x3 → Q (some (.int x2)) h) ∧ (¬ 4 ≤ x3 → gC l G d MX4_stepFrom [.ref lk, .int x1, .int x3] h (rI fun v1 h1 => h1.2.2 = (h).2.2 ∧ gC l G d MX4_isCell [.ref lk, .int v1] h1 (rI fun v2 h2 => h2.2.2 = (h1).2.2 ∧ ((v2 = 0 → gg p l e s m args below meth c G (d + 1) MX10_stepsBeside Q 6 [some (.ref 49), some (.int x1), some (.int x2), some (.int (x3 + 1)), none] [] h2) ∧ (¬ v2 = 0 → (vp_in v1 48 ∧ gg p l e s m args below meth c G (d + 1) MX10_stepsBeside Q 6 [some (.ref 49), some (.int x1), some (.int (if (h2.1 51 v1.toNatClampNeg) < x2 then (h2.1 51 v1.toNatClampNeg) else x2)), some (.int (x3 + 1)), none] [] h2)))))))) : gg p l e s m args below meth c G (d + 1) MX10_stepsBeside Q 6 [some (.ref 49), some (.int x1), some (.int x2), some (.int x3), none] [] h := by
  refine go_iload_n (x := x3) dX10_stepsBeside_6 rfl ?_
  refine go_iconst (v := 4) dX10_stepsBeside_7 rfl ?_
  refine go_icmp_ge 58 dX10_stepsBeside_8 rfl (fun q => ?_) (fun q => ?_)
  · replace vc := vc.1 q
    refine go_iload_n (x := x2) dX10_stepsBeside_58 rfl ?_
    exact go_iret dX10_stepsBeside_59 rfl vc rfl (Nat.le_refl _) (Nat.le_refl _)
  · replace vc := vc.2 q
    refine go_aload_n (x := 49) dX10_stepsBeside_11 rfl ?_
    refine go_getR (x := 29) dX10_stepsBeside_12 f10_21 sh49 (fun _ _ => rfl) (rf49_0 hR) ?_
    refine go_getR (x := lk) dX10_stepsBeside_15 f10_45 sh29 (fun _ _ => rfl) (rf29_2 hR) ?_
    refine go_iload_n (x := x1) dX10_stepsBeside_18 rfl ?_
    refine go_iload_n (x := x3) dX10_stepsBeside_19 rfl ?_
    refine gvI2 MX4_stepFrom dX10_stepsBeside_20 lX10_93 kX4_stepFrom vX4_stepFrom (slx hlk) (by decide) rfl (Nat.le_of_ble_eq_true rfl) vc ?_
    intro v1 h1 vc
    obtain ⟨hR1, vc⟩ := vc
    replace hR := hR1.trans hR
    refine go_istore dX10_stepsBeside_23 (Nat.le_of_ble_eq_true rfl) ?_
    show gg p l e s m args below meth c G (d + 1) MX10_stepsBeside Q 25 [some (.ref 49), some (.int x1), some (.int x2), some (.int x3), some (.int v1)] [] h1
    refine go_aload_n (x := 49) dX10_stepsBeside_25 rfl ?_
    refine go_getR (x := 29) dX10_stepsBeside_26 f10_21 sh49 (fun _ _ => rfl) (rf49_0 hR) ?_
    refine go_getR (x := lk) dX10_stepsBeside_29 f10_45 sh29 (fun _ _ => rfl) (rf29_2 hR) ?_
    refine go_iload (x := v1) dX10_stepsBeside_32 rfl ?_
    refine gvI1 MX4_isCell dX10_stepsBeside_34 lX10_49 kX4_isCell vX4_isCell (slx hlk) (by decide) rfl (Nat.le_of_ble_eq_true rfl) vc ?_
    intro v2 h2 vc
    obtain ⟨hR2, vc⟩ := vc
    replace hR := hR2.trans hR
    refine go_if_eq 52 dX10_stepsBeside_37 rfl (fun q => ?_) (fun q => ?_)
    · replace vc := vc.1 q
      refine go_iinc (x := x3) dX10_stepsBeside_52 rfl ?_
      show gg p l e s m args below meth c G (d + 1) MX10_stepsBeside Q 55 [some (.ref 49), some (.int x1), some (.int x2), some (.int (x3 + 1)), some (.int v1)] [] h2
      refine go_goto 6 dX10_stepsBeside_55 rfl ?_
      refine go_weak (ls' := [some (.ref 49), some (.int x1), some (.int x2), some (.int (x3 + 1)), none]) ?_ vc
      exact (⟨rfl, ⟨rfl, ⟨rfl, ⟨rfl, trivial⟩⟩⟩⟩)
    · replace vc := vc.2 q
      refine go_iload_n (x := x2) dX10_stepsBeside_40 rfl ?_
      refine go_aload_n (x := 49) dX10_stepsBeside_41 rfl ?_
      refine go_getR (x := 51) dX10_stepsBeside_42 f10_15 sh49 (fun _ _ => rfl) (rf49_2 hR) ?_
      refine go_iload (x := v1) dX10_stepsBeside_45 rfl ?_
      refine go_iald' (v := (h2.1 51 v1.toNatClampNeg)) dX10_stepsBeside_47 sh51 vc.1 rfl ?_
      have vc := vc.2
      refine go_min dX10_stepsBeside_48 lX10_96 (Nat.le_of_ble_eq_true rfl) ?_
      refine go_istore_n dX10_stepsBeside_51 (Nat.le_of_ble_eq_true rfl) ?_
      show gg p l e s m args below meth c G (d + 1) MX10_stepsBeside Q 52 [some (.ref 49), some (.int x1), some (.int (if (h2.1 51 v1.toNatClampNeg) < x2 then (h2.1 51 v1.toNatClampNeg) else x2)), some (.int x3), some (.int v1)] [] h2
      refine go_iinc (x := x3) dX10_stepsBeside_52 rfl ?_
      show gg p l e s m args below meth c G (d + 1) MX10_stepsBeside Q 55 [some (.ref 49), some (.int x1), some (.int (if (h2.1 51 v1.toNatClampNeg) < x2 then (h2.1 51 v1.toNatClampNeg) else x2)), some (.int (x3 + 1)), some (.int v1)] [] h2
      refine go_goto 6 dX10_stepsBeside_55 rfl ?_
      refine go_weak (ls' := [some (.ref 49), some (.int x1), some (.int (if (h2.1 51 v1.toNatClampNeg) < x2 then (h2.1 51 v1.toNatClampNeg) else x2)), some (.int (x3 + 1)), none]) ?_ vc
      exact (⟨rfl, ⟨rfl, ⟨rfl, ⟨rfl, trivial⟩⟩⟩⟩)
set_option maxRecDepth 20000 in
theorem wX10_firstBeside_0 {p : Program} {l : Launch} {e : Env} {s : State} {m : MethodId} {args : Array Value} {below : List Frame} {meth : Method} {c : Code} {G : gG} {d : Nat} {Q : Option Value → gH → Prop} {h : gH} {lk sp : Nat} {cd : Option Nat} {a1 : Int32} {a2 : Int32} (hR : h.2.2 = gRF lk sp cd) (hlk : lk = 30 ∨ lk = 67) (hsp : sp = 30 ∨ sp = 67)  (vc : gg p l e s m args below meth c G (d + 1) MX10_firstBeside Q 5 [some (.ref 49), some (.int a1), some (.int a2), some (.int (-1)), some (.int 0), none] [] h) : gg p l e s m args below meth c G (d + 1) MX10_firstBeside Q 0 [some (.ref 49), some (.int a1), some (.int a2), none, none, none] [] h := by
  refine go_iconst (v := (-1)) dX10_firstBeside_0 rfl ?_
  refine go_istore_n dX10_firstBeside_1 (Nat.le_of_ble_eq_true rfl) ?_
  show gg p l e s m args below meth c G (d + 1) MX10_firstBeside Q 2 [some (.ref 49), some (.int a1), some (.int a2), some (.int (-1)), none, none] [] h
  refine go_iconst (v := 0) dX10_firstBeside_2 rfl ?_
  refine go_istore dX10_firstBeside_3 (Nat.le_of_ble_eq_true rfl) ?_
  show gg p l e s m args below meth c G (d + 1) MX10_firstBeside Q 5 [some (.ref 49), some (.int a1), some (.int a2), some (.int (-1)), some (.int 0), none] [] h
  exact vc
set_option maxRecDepth 20000 in
theorem wX10_firstBeside_5 {p : Program} {l : Launch} {e : Env} {s : State} {m : MethodId} {args : Array Value} {below : List Frame} {meth : Method} {c : Code} {G : gG} {d : Nat} {Q : Option Value → gH → Prop} {h : gH} {lk sp : Nat} {cd : Option Nat} {x1 : Int32} {x2 : Int32} {x3 : Int32} {x4 : Int32} (hR : h.2.2 = gRF lk sp cd) (hlk : lk = 30 ∨ lk = 67) (hsp : sp = 30 ∨ sp = 67)  (vc : ((4 ≤ x4 → Q (some (.int x3)) h) ∧ (¬ 4 ≤ x4 → gC l G d MX4_stepFrom [.ref lk, .int x1, .int x4] h (rI fun v1 h1 => h1.2.2 = (h).2.2 ∧ gC l G d MX4_isCell [.ref lk, .int v1] h1 (rI fun v2 h2 => h2.2.2 = (h1).2.2 ∧ ((v2 = 0 → gg p l e s m args below meth c G (d + 1) MX10_firstBeside Q 5 [some (.ref 49), some (.int x1), some (.int x2), some (.int x3), some (.int (x4 + 1)), none] [] h2) ∧ (¬ v2 = 0 → (vp_in v1 48 ∧ ((¬ (h2.1 51 v1.toNatClampNeg) = x2 → gg p l e s m args below meth c G (d + 1) MX10_firstBeside Q 5 [some (.ref 49), some (.int x1), some (.int x2), some (.int x3), some (.int (x4 + 1)), none] [] h2) ∧ ((h2.1 51 v1.toNatClampNeg) = x2 → ((x3 = (-1) → gg p l e s m args below meth c G (d + 1) MX10_firstBeside Q 5 [some (.ref 49), some (.int x1), some (.int x2), some (.int v1), some (.int (x4 + 1)), none] [] h2) ∧ (¬ x3 = (-1) → ((x3 ≤ v1 → gg p l e s m args below meth c G (d + 1) MX10_firstBeside Q 5 [some (.ref 49), some (.int x1), some (.int x2), some (.int x3), some (.int (x4 + 1)), none] [] h2) ∧ (¬ x3 ≤ v1 → gg p l e s m args below meth c G (d + 1) MX10_firstBeside Q 5 [some (.ref 49), some (.int x1), some (.int x2), some (.int v1), some (.int (x4 + 1)), none] [] h2)))))))))))))) : gg p l e s m args below meth c G (d + 1) MX10_firstBeside Q 5 [some (.ref 49), some (.int x1), some (.int x2), some (.int x3), some (.int x4), none] [] h := by
  refine go_iload (x := x4) dX10_firstBeside_5 rfl ?_
  refine go_iconst (v := 4) dX10_firstBeside_7 rfl ?_
  refine go_icmp_ge 72 dX10_firstBeside_8 rfl (fun q => ?_) (fun q => ?_)
  · replace vc := vc.1 q
    refine go_iload_n (x := x3) dX10_firstBeside_72 rfl ?_
    exact go_iret dX10_firstBeside_73 rfl vc rfl (Nat.le_refl _) (Nat.le_refl _)
  · replace vc := vc.2 q
    refine go_aload_n (x := 49) dX10_firstBeside_11 rfl ?_
    refine go_getR (x := 29) dX10_firstBeside_12 f10_21 sh49 (fun _ _ => rfl) (rf49_0 hR) ?_
    refine go_getR (x := lk) dX10_firstBeside_15 f10_45 sh29 (fun _ _ => rfl) (rf29_2 hR) ?_
    refine go_iload_n (x := x1) dX10_firstBeside_18 rfl ?_
    refine go_iload (x := x4) dX10_firstBeside_19 rfl ?_
    refine gvI2 MX4_stepFrom dX10_firstBeside_21 lX10_93 kX4_stepFrom vX4_stepFrom (slx hlk) (by decide) rfl (Nat.le_of_ble_eq_true rfl) vc ?_
    intro v1 h1 vc
    obtain ⟨hR1, vc⟩ := vc
    replace hR := hR1.trans hR
    refine go_istore dX10_firstBeside_24 (Nat.le_of_ble_eq_true rfl) ?_
    show gg p l e s m args below meth c G (d + 1) MX10_firstBeside Q 26 [some (.ref 49), some (.int x1), some (.int x2), some (.int x3), some (.int x4), some (.int v1)] [] h1
    refine go_aload_n (x := 49) dX10_firstBeside_26 rfl ?_
    refine go_getR (x := 29) dX10_firstBeside_27 f10_21 sh49 (fun _ _ => rfl) (rf49_0 hR) ?_
    refine go_getR (x := lk) dX10_firstBeside_30 f10_45 sh29 (fun _ _ => rfl) (rf29_2 hR) ?_
    refine go_iload (x := v1) dX10_firstBeside_33 rfl ?_
    refine gvI1 MX4_isCell dX10_firstBeside_35 lX10_49 kX4_isCell vX4_isCell (slx hlk) (by decide) rfl (Nat.le_of_ble_eq_true rfl) vc ?_
    intro v2 h2 vc
    obtain ⟨hR2, vc⟩ := vc
    replace hR := hR2.trans hR
    refine go_if_eq 66 dX10_firstBeside_38 rfl (fun q => ?_) (fun q => ?_)
    · replace vc := vc.1 q
      refine go_iinc (x := x4) dX10_firstBeside_66 rfl ?_
      show gg p l e s m args below meth c G (d + 1) MX10_firstBeside Q 69 [some (.ref 49), some (.int x1), some (.int x2), some (.int x3), some (.int (x4 + 1)), some (.int v1)] [] h2
      refine go_goto 5 dX10_firstBeside_69 rfl ?_
      refine go_weak (ls' := [some (.ref 49), some (.int x1), some (.int x2), some (.int x3), some (.int (x4 + 1)), none]) ?_ vc
      exact (⟨rfl, ⟨rfl, ⟨rfl, ⟨rfl, ⟨rfl, trivial⟩⟩⟩⟩⟩)
    · replace vc := vc.2 q
      refine go_aload_n (x := 49) dX10_firstBeside_41 rfl ?_
      refine go_getR (x := 51) dX10_firstBeside_42 f10_15 sh49 (fun _ _ => rfl) (rf49_2 hR) ?_
      refine go_iload (x := v1) dX10_firstBeside_45 rfl ?_
      refine go_iald' (v := (h2.1 51 v1.toNatClampNeg)) dX10_firstBeside_47 sh51 vc.1 rfl ?_
      have vc := vc.2
      refine go_iload_n (x := x2) dX10_firstBeside_48 rfl ?_
      refine go_icmp_ne 66 dX10_firstBeside_49 rfl (fun q => ?_) (fun q => ?_)
      · replace vc := vc.1 q
        refine go_iinc (x := x4) dX10_firstBeside_66 rfl ?_
        show gg p l e s m args below meth c G (d + 1) MX10_firstBeside Q 69 [some (.ref 49), some (.int x1), some (.int x2), some (.int x3), some (.int (x4 + 1)), some (.int v1)] [] h2
        refine go_goto 5 dX10_firstBeside_69 rfl ?_
        refine go_weak (ls' := [some (.ref 49), some (.int x1), some (.int x2), some (.int x3), some (.int (x4 + 1)), none]) ?_ vc
        exact (⟨rfl, ⟨rfl, ⟨rfl, ⟨rfl, ⟨rfl, trivial⟩⟩⟩⟩⟩)
      · replace vc := vc.2 q
        refine go_iload_n (x := x3) dX10_firstBeside_52 rfl ?_
        refine go_iconst (v := (-1)) dX10_firstBeside_53 rfl ?_
        refine go_icmp_eq 63 dX10_firstBeside_54 rfl (fun q => ?_) (fun q => ?_)
        · replace vc := vc.1 q
          refine go_iload (x := v1) dX10_firstBeside_63 rfl ?_
          refine go_istore_n dX10_firstBeside_65 (Nat.le_of_ble_eq_true rfl) ?_
          show gg p l e s m args below meth c G (d + 1) MX10_firstBeside Q 66 [some (.ref 49), some (.int x1), some (.int x2), some (.int v1), some (.int x4), some (.int v1)] [] h2
          refine go_iinc (x := x4) dX10_firstBeside_66 rfl ?_
          show gg p l e s m args below meth c G (d + 1) MX10_firstBeside Q 69 [some (.ref 49), some (.int x1), some (.int x2), some (.int v1), some (.int (x4 + 1)), some (.int v1)] [] h2
          refine go_goto 5 dX10_firstBeside_69 rfl ?_
          refine go_weak (ls' := [some (.ref 49), some (.int x1), some (.int x2), some (.int v1), some (.int (x4 + 1)), none]) ?_ vc
          exact (⟨rfl, ⟨rfl, ⟨rfl, ⟨rfl, ⟨rfl, trivial⟩⟩⟩⟩⟩)
        · replace vc := vc.2 q
          refine go_iload (x := v1) dX10_firstBeside_57 rfl ?_
          refine go_iload_n (x := x3) dX10_firstBeside_59 rfl ?_
          refine go_icmp_ge 66 dX10_firstBeside_60 rfl (fun q => ?_) (fun q => ?_)
          · replace vc := vc.1 q
            refine go_iinc (x := x4) dX10_firstBeside_66 rfl ?_
            show gg p l e s m args below meth c G (d + 1) MX10_firstBeside Q 69 [some (.ref 49), some (.int x1), some (.int x2), some (.int x3), some (.int (x4 + 1)), some (.int v1)] [] h2
            refine go_goto 5 dX10_firstBeside_69 rfl ?_
            refine go_weak (ls' := [some (.ref 49), some (.int x1), some (.int x2), some (.int x3), some (.int (x4 + 1)), none]) ?_ vc
            exact (⟨rfl, ⟨rfl, ⟨rfl, ⟨rfl, ⟨rfl, trivial⟩⟩⟩⟩⟩)
          · replace vc := vc.2 q
            refine go_iload (x := v1) dX10_firstBeside_63 rfl ?_
            refine go_istore_n dX10_firstBeside_65 (Nat.le_of_ble_eq_true rfl) ?_
            show gg p l e s m args below meth c G (d + 1) MX10_firstBeside Q 66 [some (.ref 49), some (.int x1), some (.int x2), some (.int v1), some (.int x4), some (.int v1)] [] h2
            refine go_iinc (x := x4) dX10_firstBeside_66 rfl ?_
            show gg p l e s m args below meth c G (d + 1) MX10_firstBeside Q 69 [some (.ref 49), some (.int x1), some (.int x2), some (.int v1), some (.int (x4 + 1)), some (.int v1)] [] h2
            refine go_goto 5 dX10_firstBeside_69 rfl ?_
            refine go_weak (ls' := [some (.ref 49), some (.int x1), some (.int x2), some (.int v1), some (.int (x4 + 1)), none]) ?_ vc
            exact (⟨rfl, ⟨rfl, ⟨rfl, ⟨rfl, ⟨rfl, trivial⟩⟩⟩⟩⟩)
set_option maxRecDepth 20000 in
theorem wX10_gentlest_0 {p : Program} {l : Launch} {e : Env} {s : State} {m : MethodId} {args : Array Value} {below : List Frame} {meth : Method} {c : Code} {G : gG} {d : Nat} {Q : Option Value → gH → Prop} {h : gH} {lk sp : Nat} {cd : Option Nat} {a1 : Int32} {a2 : Int32} (hR : h.2.2 = gRF lk sp cd) (hlk : lk = 30 ∨ lk = 67) (hsp : sp = 30 ∨ sp = 67)  (vc : gC l G d MX10_readFears [.ref 49, .int a1] h (rV fun h1 => h1.2.2 = (h).2.2 ∧ gC l G d MX2_cellOf [.ref 6, .int a1] h1 (rI fun v2 h2 => h2.2.2 = (h1).2.2 ∧ gC l G d MX4_isCell [.ref lk, .int v2] h2 (rI fun v3 h3 => h3.2.2 = (h2).2.2 ∧ ((v3 = 0 → Q (some (.int (-1))) h3) ∧ (¬ v3 = 0 → gC l G d MX4_isCell [.ref lk, .int a2] h3 (rI fun v4 h4 => h4.2.2 = (h3).2.2 ∧ ((¬ v4 = 0 → gC l G d MJ7_fill_53178 [.ref 51, .int 1000] h4 (rV fun h5 => h5.2.2 = (h4).2.2 ∧ (vp_in v2 48 ∧ gg p l e s m args below meth c G (d + 1) MX10_gentlest Q 70 [some (.ref 49), some (.int a1), some (.int a2), some (.int v2), some (.int 1), some (.int 0), none, none] [] (sI h5 51 v2.toNatClampNeg 0)))) ∧ (v4 = 0 → Q (some (.int (-1))) h4))))))))) : gg p l e s m args below meth c G (d + 1) MX10_gentlest Q 0 [some (.ref 49), some (.int a1), some (.int a2), none, none, none, none, none] [] h := by
  refine go_aload_n (x := 49) dX10_gentlest_0 rfl ?_
  refine go_iload_n (x := a1) dX10_gentlest_1 rfl ?_
  refine gvV1 MX10_readFears dX10_gentlest_2 lX10_29 kX10_readFears vX10_readFears sh49 (by decide) rfl (Nat.le_of_ble_eq_true rfl) vc ?_
  intro h1 vc
  obtain ⟨hR1, vc⟩ := vc
  replace hR := hR1.trans hR
  refine go_aload_n (x := 49) dX10_gentlest_5 rfl ?_
  refine go_getR (x := 29) dX10_gentlest_6 f10_21 sh49 (fun _ _ => rfl) (rf49_0 hR) ?_
  refine go_getR (x := 6) dX10_gentlest_9 f10_33 sh29 (fun _ _ => rfl) (rf29_0 hR) ?_
  refine go_iload_n (x := a1) dX10_gentlest_12 rfl ?_
  refine gvI1 MX2_cellOf dX10_gentlest_13 lX10_39 kX2_cellOf vX2_cellOf sh6 (by decide) rfl (Nat.le_of_ble_eq_true rfl) vc ?_
  intro v2 h2 vc
  obtain ⟨hR2, vc⟩ := vc
  replace hR := hR2.trans hR
  refine go_istore_n dX10_gentlest_16 (Nat.le_of_ble_eq_true rfl) ?_
  show gg p l e s m args below meth c G (d + 1) MX10_gentlest Q 17 [some (.ref 49), some (.int a1), some (.int a2), some (.int v2), none, none, none, none] [] h2
  refine go_aload_n (x := 49) dX10_gentlest_17 rfl ?_
  refine go_getR (x := 29) dX10_gentlest_18 f10_21 sh49 (fun _ _ => rfl) (rf49_0 hR) ?_
  refine go_getR (x := lk) dX10_gentlest_21 f10_45 sh29 (fun _ _ => rfl) (rf29_2 hR) ?_
  refine go_iload_n (x := v2) dX10_gentlest_24 rfl ?_
  refine gvI1 MX4_isCell dX10_gentlest_25 lX10_49 kX4_isCell vX4_isCell (slx hlk) (by decide) rfl (Nat.le_of_ble_eq_true rfl) vc ?_
  intro v3 h3 vc
  obtain ⟨hR3, vc⟩ := vc
  replace hR := hR3.trans hR
  refine go_if_eq 45 dX10_gentlest_28 rfl (fun q => ?_) (fun q => ?_)
  · replace vc := vc.1 q
    refine go_iconst (v := (-1)) dX10_gentlest_45 rfl ?_
    exact go_iret dX10_gentlest_46 rfl vc rfl (Nat.le_refl _) (Nat.le_refl _)
  · replace vc := vc.2 q
    refine go_aload_n (x := 49) dX10_gentlest_31 rfl ?_
    refine go_getR (x := 29) dX10_gentlest_32 f10_21 sh49 (fun _ _ => rfl) (rf49_0 hR) ?_
    refine go_getR (x := lk) dX10_gentlest_35 f10_45 sh29 (fun _ _ => rfl) (rf29_2 hR) ?_
    refine go_iload_n (x := a2) dX10_gentlest_38 rfl ?_
    refine gvI1 MX4_isCell dX10_gentlest_39 lX10_49 kX4_isCell vX4_isCell (slx hlk) (by decide) rfl (Nat.le_of_ble_eq_true rfl) vc ?_
    intro v4 h4 vc
    obtain ⟨hR4, vc⟩ := vc
    replace hR := hR4.trans hR
    refine go_if_ne 47 dX10_gentlest_42 rfl (fun q => ?_) (fun q => ?_)
    · replace vc := vc.1 q
      refine go_aload_n (x := 49) dX10_gentlest_47 rfl ?_
      refine go_getR (x := 51) dX10_gentlest_48 f10_15 sh49 (fun _ _ => rfl) (rf49_2 hR) ?_
      refine go_sipush (v := 1000) dX10_gentlest_51 rfl ?_
      refine gsV2 MJ7_fill_53178 dX10_gentlest_54 lX10_80 kJ7_fill_53178 sJ7_fill_53178 (Nat.le_of_ble_eq_true rfl) vc ?_
      intro h5 vc
      obtain ⟨hR5, vc⟩ := vc
      replace hR := hR5.trans hR
      refine go_aload_n (x := 49) dX10_gentlest_57 rfl ?_
      refine go_getR (x := 51) dX10_gentlest_58 f10_15 sh49 (fun _ _ => rfl) (rf49_2 hR) ?_
      refine go_iload_n (x := v2) dX10_gentlest_61 rfl ?_
      refine go_iconst (v := 0) dX10_gentlest_62 rfl ?_
      refine go_iast dX10_gentlest_63 sh51 vc.1 ?_
      have vc := vc.2
      show gg p l e s m args below meth c G (d + 1) MX10_gentlest Q 64 [some (.ref 49), some (.int a1), some (.int a2), some (.int v2), none, none, none, none] [] (sI h5 51 v2.toNatClampNeg 0)
      refine go_iconst (v := 1) dX10_gentlest_64 rfl ?_
      refine go_istore dX10_gentlest_65 (Nat.le_of_ble_eq_true rfl) ?_
      show gg p l e s m args below meth c G (d + 1) MX10_gentlest Q 67 [some (.ref 49), some (.int a1), some (.int a2), some (.int v2), some (.int 1), none, none, none] [] (sI h5 51 v2.toNatClampNeg 0)
      refine go_iconst (v := 0) dX10_gentlest_67 rfl ?_
      refine go_istore dX10_gentlest_68 (Nat.le_of_ble_eq_true rfl) ?_
      show gg p l e s m args below meth c G (d + 1) MX10_gentlest Q 70 [some (.ref 49), some (.int a1), some (.int a2), some (.int v2), some (.int 1), some (.int 0), none, none] [] (sI h5 51 v2.toNatClampNeg 0)
      exact vc
    · replace vc := vc.2 q
      refine go_iconst (v := (-1)) dX10_gentlest_45 rfl ?_
      exact go_iret dX10_gentlest_46 rfl vc rfl (Nat.le_refl _) (Nat.le_refl _)
set_option maxRecDepth 20000 in
theorem wX10_gentlest_70 {p : Program} {l : Launch} {e : Env} {s : State} {m : MethodId} {args : Array Value} {below : List Frame} {meth : Method} {c : Code} {G : gG} {d : Nat} {Q : Option Value → gH → Prop} {h : gH} {lk sp : Nat} {cd : Option Nat} {x1 : Int32} {x2 : Int32} {x3 : Int32} {x4 : Int32} {x5 : Int32} (hR : h.2.2 = gRF lk sp cd) (hlk : lk = 30 ∨ lk = 67) (hsp : sp = 30 ∨ sp = 67)  (vc : ((48 ≤ x5 → (vp_in x2 48 ∧ ((1000 ≤ (h.1 51 x2.toNatClampNeg) → Q (some (.int (-1))) h) ∧ (¬ 1000 ≤ (h.1 51 x2.toNatClampNeg) → (vp_in x2 48 ∧ Q (some (.int (h.1 51 x2.toNatClampNeg))) h))))) ∧ (¬ 48 ≤ x5 → ((x4 = 0 → (vp_in x2 48 ∧ ((1000 ≤ (h.1 51 x2.toNatClampNeg) → Q (some (.int (-1))) h) ∧ (¬ 1000 ≤ (h.1 51 x2.toNatClampNeg) → (vp_in x2 48 ∧ Q (some (.int (h.1 51 x2.toNatClampNeg))) h))))) ∧ (¬ x4 = 0 → gg p l e s m args below meth c G (d + 1) MX10_gentlest Q 88 [some (.ref 49), some (.int x1), some (.int x2), some (.int x3), some (.int 0), some (.int x5), some (.int 0), none] [] h))))) : gg p l e s m args below meth c G (d + 1) MX10_gentlest Q 70 [some (.ref 49), some (.int x1), some (.int x2), some (.int x3), some (.int x4), some (.int x5), none, none] [] h := by
  refine go_iload (x := x5) dX10_gentlest_70 rfl ?_
  refine go_bipush (v := 48) dX10_gentlest_72 rfl ?_
  refine go_icmp_ge 178 dX10_gentlest_74 rfl (fun q => ?_) (fun q => ?_)
  · replace vc := vc.1 q
    refine go_aload_n (x := 49) dX10_gentlest_178 rfl ?_
    refine go_getR (x := 51) dX10_gentlest_179 f10_15 sh49 (fun _ _ => rfl) (rf49_2 hR) ?_
    refine go_iload_n (x := x2) dX10_gentlest_182 rfl ?_
    refine go_iald' (v := (h.1 51 x2.toNatClampNeg)) dX10_gentlest_183 sh51 vc.1 rfl ?_
    have vc := vc.2
    refine go_sipush (v := 1000) dX10_gentlest_184 rfl ?_
    refine go_icmp_ge 199 dX10_gentlest_187 rfl (fun q => ?_) (fun q => ?_)
    · replace vc := vc.1 q
      refine go_iconst (v := (-1)) dX10_gentlest_199 rfl ?_
      exact go_iret dX10_gentlest_200 rfl vc rfl (Nat.le_refl _) (Nat.le_refl _)
    · replace vc := vc.2 q
      refine go_aload_n (x := 49) dX10_gentlest_190 rfl ?_
      refine go_getR (x := 51) dX10_gentlest_191 f10_15 sh49 (fun _ _ => rfl) (rf49_2 hR) ?_
      refine go_iload_n (x := x2) dX10_gentlest_194 rfl ?_
      refine go_iald' (v := (h.1 51 x2.toNatClampNeg)) dX10_gentlest_195 sh51 vc.1 rfl ?_
      have vc := vc.2
      refine go_goto 200 dX10_gentlest_196 rfl ?_
      exact go_iret dX10_gentlest_200 rfl vc rfl (Nat.le_refl _) (Nat.le_refl _)
  · replace vc := vc.2 q
    refine go_iload (x := x4) dX10_gentlest_77 rfl ?_
    refine go_if_eq 178 dX10_gentlest_79 rfl (fun q => ?_) (fun q => ?_)
    · replace vc := vc.1 q
      refine go_aload_n (x := 49) dX10_gentlest_178 rfl ?_
      refine go_getR (x := 51) dX10_gentlest_179 f10_15 sh49 (fun _ _ => rfl) (rf49_2 hR) ?_
      refine go_iload_n (x := x2) dX10_gentlest_182 rfl ?_
      refine go_iald' (v := (h.1 51 x2.toNatClampNeg)) dX10_gentlest_183 sh51 vc.1 rfl ?_
      have vc := vc.2
      refine go_sipush (v := 1000) dX10_gentlest_184 rfl ?_
      refine go_icmp_ge 199 dX10_gentlest_187 rfl (fun q => ?_) (fun q => ?_)
      · replace vc := vc.1 q
        refine go_iconst (v := (-1)) dX10_gentlest_199 rfl ?_
        exact go_iret dX10_gentlest_200 rfl vc rfl (Nat.le_refl _) (Nat.le_refl _)
      · replace vc := vc.2 q
        refine go_aload_n (x := 49) dX10_gentlest_190 rfl ?_
        refine go_getR (x := 51) dX10_gentlest_191 f10_15 sh49 (fun _ _ => rfl) (rf49_2 hR) ?_
        refine go_iload_n (x := x2) dX10_gentlest_194 rfl ?_
        refine go_iald' (v := (h.1 51 x2.toNatClampNeg)) dX10_gentlest_195 sh51 vc.1 rfl ?_
        have vc := vc.2
        refine go_goto 200 dX10_gentlest_196 rfl ?_
        exact go_iret dX10_gentlest_200 rfl vc rfl (Nat.le_refl _) (Nat.le_refl _)
    · replace vc := vc.2 q
      refine go_iconst (v := 0) dX10_gentlest_82 rfl ?_
      refine go_istore dX10_gentlest_83 (Nat.le_of_ble_eq_true rfl) ?_
      show gg p l e s m args below meth c G (d + 1) MX10_gentlest Q 85 [some (.ref 49), some (.int x1), some (.int x2), some (.int x3), some (.int 0), some (.int x5), none, none] [] h
      refine go_iconst (v := 0) dX10_gentlest_85 rfl ?_
      refine go_istore dX10_gentlest_86 (Nat.le_of_ble_eq_true rfl) ?_
      show gg p l e s m args below meth c G (d + 1) MX10_gentlest Q 88 [some (.ref 49), some (.int x1), some (.int x2), some (.int x3), some (.int 0), some (.int x5), some (.int 0), none] [] h
      exact vc
set_option maxRecDepth 20000 in
theorem wX10_gentlest_88 {p : Program} {l : Launch} {e : Env} {s : State} {m : MethodId} {args : Array Value} {below : List Frame} {meth : Method} {c : Code} {G : gG} {d : Nat} {Q : Option Value → gH → Prop} {h : gH} {lk sp : Nat} {cd : Option Nat} {x1 : Int32} {x2 : Int32} {x3 : Int32} {x4 : Int32} {x5 : Int32} {x6 : Int32} (hR : h.2.2 = gRF lk sp cd) (hlk : lk = 30 ∨ lk = 67) (hsp : sp = 30 ∨ sp = 67)  (vc : gC l G d MX4_cells [.ref lk] h (rI fun v1 h1 => h1.2.2 = (h).2.2 ∧ ((v1 ≤ x6 → gg p l e s m args below meth c G (d + 1) MX10_gentlest Q 70 [some (.ref 49), some (.int x1), some (.int x2), some (.int x3), some (.int x4), some (.int (x5 + 1)), none, none] [] h1) ∧ (¬ v1 ≤ x6 → gC l G d MX4_isWater [.ref lk, .int x6] h1 (rI fun v2 h2 => h2.2.2 = (h1).2.2 ∧ ((v2 = 0 → (vp_in x6 48 ∧ (((h2.1 51 x6.toNatClampNeg) ≤ 1000 → gg p l e s m args below meth c G (d + 1) MX10_gentlest Q 88 [some (.ref 49), some (.int x1), some (.int x2), some (.int x3), some (.int x4), some (.int x5), some (.int (x6 + 1)), none] [] h2) ∧ (¬ (h2.1 51 x6.toNatClampNeg) ≤ 1000 → (vp_in x6 48 ∧ gg p l e s m args below meth c G (d + 1) MX10_gentlest Q 88 [some (.ref 49), some (.int x1), some (.int x2), some (.int x3), some (.int 1), some (.int x5), some (.int (x6 + 1)), none] [] (sI h2 51 x6.toNatClampNeg 1000)))))) ∧ (¬ v2 = 0 → (vp_in x6 48 ∧ gC l G d MX10_stepsBeside [.ref 49, .int x6] h2 (rI fun v3 h3 => h3.2.2 = (h2).2.2 ∧ (vp_in x6 48 ∧ (((h3.1 51 x6.toNatClampNeg) ≤ (if (h2.1 50 x6.toNatClampNeg) < v3 then v3 else (h2.1 50 x6.toNatClampNeg)) → gg p l e s m args below meth c G (d + 1) MX10_gentlest Q 88 [some (.ref 49), some (.int x1), some (.int x2), some (.int x3), some (.int x4), some (.int x5), some (.int (x6 + 1)), none] [] h3) ∧ (¬ (h3.1 51 x6.toNatClampNeg) ≤ (if (h2.1 50 x6.toNatClampNeg) < v3 then v3 else (h2.1 50 x6.toNatClampNeg)) → (vp_in x6 48 ∧ gg p l e s m args below meth c G (d + 1) MX10_gentlest Q 88 [some (.ref 49), some (.int x1), some (.int x2), some (.int x3), some (.int 1), some (.int x5), some (.int (x6 + 1)), none] [] (sI h3 51 x6.toNatClampNeg (if (h2.1 50 x6.toNatClampNeg) < v3 then v3 else (h2.1 50 x6.toNatClampNeg)))))))))))))))) : gg p l e s m args below meth c G (d + 1) MX10_gentlest Q 88 [some (.ref 49), some (.int x1), some (.int x2), some (.int x3), some (.int x4), some (.int x5), some (.int x6), none] [] h := by
  refine go_iload (x := x6) dX10_gentlest_88 rfl ?_
  refine go_aload_n (x := 49) dX10_gentlest_90 rfl ?_
  refine go_getR (x := 29) dX10_gentlest_91 f10_21 sh49 (fun _ _ => rfl) (rf49_0 hR) ?_
  refine go_getR (x := lk) dX10_gentlest_94 f10_45 sh29 (fun _ _ => rfl) (rf29_2 hR) ?_
  refine gvI0 MX4_cells dX10_gentlest_97 lX10_69 kX4_cells vX4_cells (slx hlk) (by decide) rfl (Nat.le_of_ble_eq_true rfl) vc ?_
  intro v1 h1 vc
  obtain ⟨hR1, vc⟩ := vc
  replace hR := hR1.trans hR
  refine go_icmp_ge 172 dX10_gentlest_100 rfl (fun q => ?_) (fun q => ?_)
  · replace vc := vc.1 q
    refine go_iinc (x := x5) dX10_gentlest_172 rfl ?_
    show gg p l e s m args below meth c G (d + 1) MX10_gentlest Q 175 [some (.ref 49), some (.int x1), some (.int x2), some (.int x3), some (.int x4), some (.int (x5 + 1)), some (.int x6), none] [] h1
    refine go_goto 70 dX10_gentlest_175 rfl ?_
    refine go_weak (ls' := [some (.ref 49), some (.int x1), some (.int x2), some (.int x3), some (.int x4), some (.int (x5 + 1)), none, none]) ?_ vc
    exact (⟨rfl, ⟨rfl, ⟨rfl, ⟨rfl, ⟨rfl, ⟨rfl, trivial⟩⟩⟩⟩⟩⟩)
  · replace vc := vc.2 q
    refine go_aload_n (x := 49) dX10_gentlest_103 rfl ?_
    refine go_getR (x := 29) dX10_gentlest_104 f10_21 sh49 (fun _ _ => rfl) (rf49_0 hR) ?_
    refine go_getR (x := lk) dX10_gentlest_107 f10_45 sh29 (fun _ _ => rfl) (rf29_2 hR) ?_
    refine go_iload (x := x6) dX10_gentlest_110 rfl ?_
    refine gvI1 MX4_isWater dX10_gentlest_112 lX10_90 kX4_isWater vX4_isWater (slx hlk) (by decide) rfl (Nat.le_of_ble_eq_true rfl) vc ?_
    intro v2 h2 vc
    obtain ⟨hR2, vc⟩ := vc
    replace hR := hR2.trans hR
    refine go_if_eq 137 dX10_gentlest_115 rfl (fun q => ?_) (fun q => ?_)
    · replace vc := vc.1 q
      refine go_sipush (v := 1000) dX10_gentlest_137 rfl ?_
      refine go_istore dX10_gentlest_140 (Nat.le_of_ble_eq_true rfl) ?_
      show gg p l e s m args below meth c G (d + 1) MX10_gentlest Q 142 [some (.ref 49), some (.int x1), some (.int x2), some (.int x3), some (.int x4), some (.int x5), some (.int x6), some (.int 1000)] [] h2
      refine go_iload (x := 1000) dX10_gentlest_142 rfl ?_
      refine go_aload_n (x := 49) dX10_gentlest_144 rfl ?_
      refine go_getR (x := 51) dX10_gentlest_145 f10_15 sh49 (fun _ _ => rfl) (rf49_2 hR) ?_
      refine go_iload (x := x6) dX10_gentlest_148 rfl ?_
      refine go_iald' (v := (h2.1 51 x6.toNatClampNeg)) dX10_gentlest_150 sh51 vc.1 rfl ?_
      have vc := vc.2
      refine go_icmp_ge 166 dX10_gentlest_151 rfl (fun q => ?_) (fun q => ?_)
      · replace vc := vc.1 q
        refine go_iinc (x := x6) dX10_gentlest_166 rfl ?_
        show gg p l e s m args below meth c G (d + 1) MX10_gentlest Q 169 [some (.ref 49), some (.int x1), some (.int x2), some (.int x3), some (.int x4), some (.int x5), some (.int (x6 + 1)), some (.int 1000)] [] h2
        refine go_goto 88 dX10_gentlest_169 rfl ?_
        refine go_weak (ls' := [some (.ref 49), some (.int x1), some (.int x2), some (.int x3), some (.int x4), some (.int x5), some (.int (x6 + 1)), none]) ?_ vc
        exact (⟨rfl, ⟨rfl, ⟨rfl, ⟨rfl, ⟨rfl, ⟨rfl, ⟨rfl, trivial⟩⟩⟩⟩⟩⟩⟩)
      · replace vc := vc.2 q
        refine go_aload_n (x := 49) dX10_gentlest_154 rfl ?_
        refine go_getR (x := 51) dX10_gentlest_155 f10_15 sh49 (fun _ _ => rfl) (rf49_2 hR) ?_
        refine go_iload (x := x6) dX10_gentlest_158 rfl ?_
        refine go_iload (x := 1000) dX10_gentlest_160 rfl ?_
        refine go_iast dX10_gentlest_162 sh51 vc.1 ?_
        have vc := vc.2
        show gg p l e s m args below meth c G (d + 1) MX10_gentlest Q 163 [some (.ref 49), some (.int x1), some (.int x2), some (.int x3), some (.int x4), some (.int x5), some (.int x6), some (.int 1000)] [] (sI h2 51 x6.toNatClampNeg 1000)
        refine go_iconst (v := 1) dX10_gentlest_163 rfl ?_
        refine go_istore dX10_gentlest_164 (Nat.le_of_ble_eq_true rfl) ?_
        show gg p l e s m args below meth c G (d + 1) MX10_gentlest Q 166 [some (.ref 49), some (.int x1), some (.int x2), some (.int x3), some (.int 1), some (.int x5), some (.int x6), some (.int 1000)] [] (sI h2 51 x6.toNatClampNeg 1000)
        refine go_iinc (x := x6) dX10_gentlest_166 rfl ?_
        show gg p l e s m args below meth c G (d + 1) MX10_gentlest Q 169 [some (.ref 49), some (.int x1), some (.int x2), some (.int x3), some (.int 1), some (.int x5), some (.int (x6 + 1)), some (.int 1000)] [] (sI h2 51 x6.toNatClampNeg 1000)
        refine go_goto 88 dX10_gentlest_169 rfl ?_
        refine go_weak (ls' := [some (.ref 49), some (.int x1), some (.int x2), some (.int x3), some (.int 1), some (.int x5), some (.int (x6 + 1)), none]) ?_ vc
        exact (⟨rfl, ⟨rfl, ⟨rfl, ⟨rfl, ⟨rfl, ⟨rfl, ⟨rfl, trivial⟩⟩⟩⟩⟩⟩⟩)
    · replace vc := vc.2 q
      refine go_aload_n (x := 49) dX10_gentlest_118 rfl ?_
      refine go_getR (x := 50) dX10_gentlest_119 f10_9 sh49 (fun _ _ => rfl) (rf49_1 hR) ?_
      refine go_iload (x := x6) dX10_gentlest_122 rfl ?_
      refine go_iald' (v := (h2.1 50 x6.toNatClampNeg)) dX10_gentlest_124 sh50 vc.1 rfl ?_
      have vc := vc.2
      refine go_aload_n (x := 49) dX10_gentlest_125 rfl ?_
      refine go_iload (x := x6) dX10_gentlest_126 rfl ?_
      refine gvI1 MX10_stepsBeside dX10_gentlest_128 lX10_62 kX10_stepsBeside vX10_stepsBeside sh49 (by decide) rfl (Nat.le_of_ble_eq_true rfl) vc ?_
      intro v3 h3 vc
      obtain ⟨hR3, vc⟩ := vc
      replace hR := hR3.trans hR
      refine go_max dX10_gentlest_131 lX10_101 (Nat.le_of_ble_eq_true rfl) ?_
      refine go_goto 140 dX10_gentlest_134 rfl ?_
      refine go_istore dX10_gentlest_140 (Nat.le_of_ble_eq_true rfl) ?_
      show gg p l e s m args below meth c G (d + 1) MX10_gentlest Q 142 [some (.ref 49), some (.int x1), some (.int x2), some (.int x3), some (.int x4), some (.int x5), some (.int x6), some (.int (if (h2.1 50 x6.toNatClampNeg) < v3 then v3 else (h2.1 50 x6.toNatClampNeg)))] [] h3
      refine go_iload (x := (if (h2.1 50 x6.toNatClampNeg) < v3 then v3 else (h2.1 50 x6.toNatClampNeg))) dX10_gentlest_142 rfl ?_
      refine go_aload_n (x := 49) dX10_gentlest_144 rfl ?_
      refine go_getR (x := 51) dX10_gentlest_145 f10_15 sh49 (fun _ _ => rfl) (rf49_2 hR) ?_
      refine go_iload (x := x6) dX10_gentlest_148 rfl ?_
      refine go_iald' (v := (h3.1 51 x6.toNatClampNeg)) dX10_gentlest_150 sh51 vc.1 rfl ?_
      have vc := vc.2
      refine go_icmp_ge 166 dX10_gentlest_151 rfl (fun q => ?_) (fun q => ?_)
      · replace vc := vc.1 q
        refine go_iinc (x := x6) dX10_gentlest_166 rfl ?_
        show gg p l e s m args below meth c G (d + 1) MX10_gentlest Q 169 [some (.ref 49), some (.int x1), some (.int x2), some (.int x3), some (.int x4), some (.int x5), some (.int (x6 + 1)), some (.int (if (h2.1 50 x6.toNatClampNeg) < v3 then v3 else (h2.1 50 x6.toNatClampNeg)))] [] h3
        refine go_goto 88 dX10_gentlest_169 rfl ?_
        refine go_weak (ls' := [some (.ref 49), some (.int x1), some (.int x2), some (.int x3), some (.int x4), some (.int x5), some (.int (x6 + 1)), none]) ?_ vc
        exact (⟨rfl, ⟨rfl, ⟨rfl, ⟨rfl, ⟨rfl, ⟨rfl, ⟨rfl, trivial⟩⟩⟩⟩⟩⟩⟩)
      · replace vc := vc.2 q
        refine go_aload_n (x := 49) dX10_gentlest_154 rfl ?_
        refine go_getR (x := 51) dX10_gentlest_155 f10_15 sh49 (fun _ _ => rfl) (rf49_2 hR) ?_
        refine go_iload (x := x6) dX10_gentlest_158 rfl ?_
        refine go_iload (x := (if (h2.1 50 x6.toNatClampNeg) < v3 then v3 else (h2.1 50 x6.toNatClampNeg))) dX10_gentlest_160 rfl ?_
        refine go_iast dX10_gentlest_162 sh51 vc.1 ?_
        have vc := vc.2
        show gg p l e s m args below meth c G (d + 1) MX10_gentlest Q 163 [some (.ref 49), some (.int x1), some (.int x2), some (.int x3), some (.int x4), some (.int x5), some (.int x6), some (.int (if (h2.1 50 x6.toNatClampNeg) < v3 then v3 else (h2.1 50 x6.toNatClampNeg)))] [] (sI h3 51 x6.toNatClampNeg (if (h2.1 50 x6.toNatClampNeg) < v3 then v3 else (h2.1 50 x6.toNatClampNeg)))
        refine go_iconst (v := 1) dX10_gentlest_163 rfl ?_
        refine go_istore dX10_gentlest_164 (Nat.le_of_ble_eq_true rfl) ?_
        show gg p l e s m args below meth c G (d + 1) MX10_gentlest Q 166 [some (.ref 49), some (.int x1), some (.int x2), some (.int x3), some (.int 1), some (.int x5), some (.int x6), some (.int (if (h2.1 50 x6.toNatClampNeg) < v3 then v3 else (h2.1 50 x6.toNatClampNeg)))] [] (sI h3 51 x6.toNatClampNeg (if (h2.1 50 x6.toNatClampNeg) < v3 then v3 else (h2.1 50 x6.toNatClampNeg)))
        refine go_iinc (x := x6) dX10_gentlest_166 rfl ?_
        show gg p l e s m args below meth c G (d + 1) MX10_gentlest Q 169 [some (.ref 49), some (.int x1), some (.int x2), some (.int x3), some (.int 1), some (.int x5), some (.int (x6 + 1)), some (.int (if (h2.1 50 x6.toNatClampNeg) < v3 then v3 else (h2.1 50 x6.toNatClampNeg)))] [] (sI h3 51 x6.toNatClampNeg (if (h2.1 50 x6.toNatClampNeg) < v3 then v3 else (h2.1 50 x6.toNatClampNeg)))
        refine go_goto 88 dX10_gentlest_169 rfl ?_
        refine go_weak (ls' := [some (.ref 49), some (.int x1), some (.int x2), some (.int x3), some (.int 1), some (.int x5), some (.int (x6 + 1)), none]) ?_ vc
        exact (⟨rfl, ⟨rfl, ⟨rfl, ⟨rfl, ⟨rfl, ⟨rfl, ⟨rfl, trivial⟩⟩⟩⟩⟩⟩⟩)
