set_option maxRecDepth 20000 in
theorem wX10_runAway_0 {p : Program} {l : Launch} {e : Env} {s : State} {m : MethodId} {args : Array Value} {below : List Frame} {meth : Method} {c : Code} {G : gG} {d : Nat} {Q : Option Value → gH → Prop} {h : gH} {lk sp : Nat} {cd : Option Nat} {a1 : Int32} (hR : h.2.2 = gRF lk sp cd) (hlk : lk = 30 ∨ lk = 67) (hsp : sp = 30 ∨ sp = 67)  (vc : gC l G d MX10_readFears [.ref 49, .int a1] h (rV fun h1 => h1.2.2 = (h).2.2 ∧ gC l G d MX2_cellOf [.ref 6, .int a1] h1 (rI fun v2 h2 => h2.2.2 = (h1).2.2 ∧ gg p l e s m args below meth c G (d + 1) MX10_runAway Q 24 [some (.ref 49), some (.int a1), some (.int 0), some (.int 0), none] [] (sI h2 49 4 v2)))) : gg p l e s m args below meth c G (d + 1) MX10_runAway Q 0 [some (.ref 49), some (.int a1), none, none, none] [] h := by
  refine go_aload_n (x := 49) dX10_runAway_0 rfl ?_
  refine go_iload_n (x := a1) dX10_runAway_1 rfl ?_
  refine gvV1 MX10_readFears dX10_runAway_2 lX10_29 kX10_readFears vX10_readFears sh49 (by decide) rfl (Nat.le_of_ble_eq_true rfl) vc ?_
  intro h1 vc
  obtain ⟨hR1, vc⟩ := vc
  replace hR := hR1.trans hR
  refine go_iconst (v := 0) dX10_runAway_5 rfl ?_
  refine go_istore_n dX10_runAway_6 (Nat.le_of_ble_eq_true rfl) ?_
  show gg p l e s m args below meth c G (d + 1) MX10_runAway Q 7 [some (.ref 49), some (.int a1), some (.int 0), none, none] [] h1
  refine go_aload_n (x := 49) dX10_runAway_7 rfl ?_
  refine go_aload_n (x := 49) dX10_runAway_8 rfl ?_
  refine go_getR (x := 29) dX10_runAway_9 f10_21 sh49 (fun _ _ => rfl) (rf49_0 hR) ?_
  refine go_getR (x := 6) dX10_runAway_12 f10_33 sh29 (fun _ _ => rfl) (rf29_0 hR) ?_
  refine go_iload_n (x := a1) dX10_runAway_15 rfl ?_
  refine gvI1 MX2_cellOf dX10_runAway_16 lX10_39 kX2_cellOf vX2_cellOf sh6 (by decide) rfl (Nat.le_of_ble_eq_true rfl) vc ?_
  intro v2 h2 vc
  obtain ⟨hR2, vc⟩ := vc
  replace hR := hR2.trans hR
  refine go_putI dX10_runAway_19 f10_25 sh49 rfl rfl ?_
  refine go_iconst (v := 0) dX10_runAway_22 rfl ?_
  refine go_istore_n dX10_runAway_23 (Nat.le_of_ble_eq_true rfl) ?_
  show gg p l e s m args below meth c G (d + 1) MX10_runAway Q 24 [some (.ref 49), some (.int a1), some (.int 0), some (.int 0), none] [] (sI h2 49 4 v2)
  exact vc
set_option maxRecDepth 20000 in
theorem wX10_runAway_24 {p : Program} {l : Launch} {e : Env} {s : State} {m : MethodId} {args : Array Value} {below : List Frame} {meth : Method} {c : Code} {G : gG} {d : Nat} {Q : Option Value → gH → Prop} {h : gH} {lk sp : Nat} {cd : Option Nat} {x1 : Int32} {x2 : Int32} {x3 : Int32} (hR : h.2.2 = gRF lk sp cd) (hlk : lk = 30 ∨ lk = 67) (hsp : sp = 30 ∨ sp = 67)  (vc : ((48 ≤ x3 → Q (some (.int x2)) h) ∧ (¬ 48 ≤ x3 → gC l G d MX10_calmerBeside [.ref 49, .int (h.1 49 4)] h (rI fun v1 h1 => h1.2.2 = (h).2.2 ∧ ((¬ v1 = (-1) → gg p l e s m args below meth c G (d + 1) MX10_runAway Q 24 [some (.ref 49), some (.int x1), some (.int (x2 + 1)), some (.int (x3 + 1)), none] [] (sI h1 49 4 v1)) ∧ (v1 = (-1) → Q (some (.int x2)) h1)))))) : gg p l e s m args below meth c G (d + 1) MX10_runAway Q 24 [some (.ref 49), some (.int x1), some (.int x2), some (.int x3), none] [] h := by
  refine go_iload_n (x := x3) dX10_runAway_24 rfl ?_
  refine go_bipush (v := 48) dX10_runAway_25 rfl ?_
  refine go_icmp_ge 64 dX10_runAway_27 rfl (fun q => ?_) (fun q => ?_)
  · replace vc := vc.1 q
    refine go_iload_n (x := x2) dX10_runAway_64 rfl ?_
    exact go_iret dX10_runAway_65 rfl vc rfl (Nat.le_refl _) (Nat.le_refl _)
  · replace vc := vc.2 q
    refine go_aload_n (x := 49) dX10_runAway_30 rfl ?_
    refine go_aload_n (x := 49) dX10_runAway_31 rfl ?_
    refine go_getI' (v := (h.1 49 4)) dX10_runAway_32 f10_25 sh49 (fun _ _ => rfl) rfl ?_
    refine gvI1 MX10_calmerBeside dX10_runAway_35 lX10_104 kX10_calmerBeside vX10_calmerBeside sh49 (by decide) rfl (Nat.le_of_ble_eq_true rfl) vc ?_
    intro v1 h1 vc
    obtain ⟨hR1, vc⟩ := vc
    replace hR := hR1.trans hR
    refine go_istore dX10_runAway_38 (Nat.le_of_ble_eq_true rfl) ?_
    show gg p l e s m args below meth c G (d + 1) MX10_runAway Q 40 [some (.ref 49), some (.int x1), some (.int x2), some (.int x3), some (.int v1)] [] h1
    refine go_iload (x := v1) dX10_runAway_40 rfl ?_
    refine go_iconst (v := (-1)) dX10_runAway_42 rfl ?_
    refine go_icmp_ne 49 dX10_runAway_43 rfl (fun q => ?_) (fun q => ?_)
    · replace vc := vc.1 q
      refine go_aload_n (x := 49) dX10_runAway_49 rfl ?_
      refine go_iload (x := v1) dX10_runAway_50 rfl ?_
      refine go_putI dX10_runAway_52 f10_25 sh49 rfl rfl ?_
      refine go_iinc (x := x2) dX10_runAway_55 rfl ?_
      show gg p l e s m args below meth c G (d + 1) MX10_runAway Q 58 [some (.ref 49), some (.int x1), some (.int (x2 + 1)), some (.int x3), some (.int v1)] [] (sI h1 49 4 v1)
      refine go_iinc (x := x3) dX10_runAway_58 rfl ?_
      show gg p l e s m args below meth c G (d + 1) MX10_runAway Q 61 [some (.ref 49), some (.int x1), some (.int (x2 + 1)), some (.int (x3 + 1)), some (.int v1)] [] (sI h1 49 4 v1)
      refine go_goto 24 dX10_runAway_61 rfl ?_
      refine go_weak (ls' := [some (.ref 49), some (.int x1), some (.int (x2 + 1)), some (.int (x3 + 1)), none]) ?_ vc
      exact (⟨rfl, ⟨rfl, ⟨rfl, ⟨rfl, trivial⟩⟩⟩⟩)
    · replace vc := vc.2 q
      refine go_goto 64 dX10_runAway_46 rfl ?_
      refine go_iload_n (x := x2) dX10_runAway_64 rfl ?_
      exact go_iret dX10_runAway_65 rfl vc rfl (Nat.le_refl _) (Nat.le_refl _)
set_option maxRecDepth 20000 in
theorem wX10_calmerBeside_0 {p : Program} {l : Launch} {e : Env} {s : State} {m : MethodId} {args : Array Value} {below : List Frame} {meth : Method} {c : Code} {G : gG} {d : Nat} {Q : Option Value → gH → Prop} {h : gH} {lk sp : Nat} {cd : Option Nat} {a1 : Int32} (hR : h.2.2 = gRF lk sp cd) (hlk : lk = 30 ∨ lk = 67) (hsp : sp = 30 ∨ sp = 67)  (vc : gC l G d MX4_isCell [.ref lk, .int a1] h (rI fun v1 h1 => h1.2.2 = (h).2.2 ∧ ((¬ v1 = 0 → (vp_in a1 48 ∧ gg p l e s m args below meth c G (d + 1) MX10_calmerBeside Q 28 [some (.ref 49), some (.int a1), some (.int (h1.1 50 a1.toNatClampNeg)), some (.int (-1)), some (.int 0), none, none] [] h1)) ∧ (v1 = 0 → Q (some (.int (-1))) h1)))) : gg p l e s m args below meth c G (d + 1) MX10_calmerBeside Q 0 [some (.ref 49), some (.int a1), none, none, none, none, none] [] h := by
  refine go_aload_n (x := 49) dX10_calmerBeside_0 rfl ?_
  refine go_getR (x := 29) dX10_calmerBeside_1 f10_21 sh49 (fun _ _ => rfl) (rf49_0 hR) ?_
  refine go_getR (x := lk) dX10_calmerBeside_4 f10_45 sh29 (fun _ _ => rfl) (rf29_2 hR) ?_
  refine go_iload_n (x := a1) dX10_calmerBeside_7 rfl ?_
  refine gvI1 MX4_isCell dX10_calmerBeside_8 lX10_49 kX4_isCell vX4_isCell (slx hlk) (by decide) rfl (Nat.le_of_ble_eq_true rfl) vc ?_
  intro v1 h1 vc
  obtain ⟨hR1, vc⟩ := vc
  replace hR := hR1.trans hR
  refine go_if_ne 16 dX10_calmerBeside_11 rfl (fun q => ?_) (fun q => ?_)
  · replace vc := vc.1 q
    refine go_aload_n (x := 49) dX10_calmerBeside_16 rfl ?_
    refine go_getR (x := 50) dX10_calmerBeside_17 f10_9 sh49 (fun _ _ => rfl) (rf49_1 hR) ?_
    refine go_iload_n (x := a1) dX10_calmerBeside_20 rfl ?_
    refine go_iald' (v := (h1.1 50 a1.toNatClampNeg)) dX10_calmerBeside_21 sh50 vc.1 rfl ?_
    have vc := vc.2
    refine go_istore_n dX10_calmerBeside_22 (Nat.le_of_ble_eq_true rfl) ?_
    show gg p l e s m args below meth c G (d + 1) MX10_calmerBeside Q 23 [some (.ref 49), some (.int a1), some (.int (h1.1 50 a1.toNatClampNeg)), none, none, none, none] [] h1
    refine go_iconst (v := (-1)) dX10_calmerBeside_23 rfl ?_
    refine go_istore_n dX10_calmerBeside_24 (Nat.le_of_ble_eq_true rfl) ?_
    show gg p l e s m args below meth c G (d + 1) MX10_calmerBeside Q 25 [some (.ref 49), some (.int a1), some (.int (h1.1 50 a1.toNatClampNeg)), some (.int (-1)), none, none, none] [] h1
    refine go_iconst (v := 0) dX10_calmerBeside_25 rfl ?_
    refine go_istore dX10_calmerBeside_26 (Nat.le_of_ble_eq_true rfl) ?_
    show gg p l e s m args below meth c G (d + 1) MX10_calmerBeside Q 28 [some (.ref 49), some (.int a1), some (.int (h1.1 50 a1.toNatClampNeg)), some (.int (-1)), some (.int 0), none, none] [] h1
    exact vc
  · replace vc := vc.2 q
    refine go_iconst (v := (-1)) dX10_calmerBeside_14 rfl ?_
    exact go_iret dX10_calmerBeside_15 rfl vc rfl (Nat.le_refl _) (Nat.le_refl _)
set_option maxRecDepth 20000 in
theorem wX10_calmerBeside_28 {p : Program} {l : Launch} {e : Env} {s : State} {m : MethodId} {args : Array Value} {below : List Frame} {meth : Method} {c : Code} {G : gG} {d : Nat} {Q : Option Value → gH → Prop} {h : gH} {lk sp : Nat} {cd : Option Nat} {x1 : Int32} {x2 : Int32} {x3 : Int32} {x4 : Int32} (hR : h.2.2 = gRF lk sp cd) (hlk : lk = 30 ∨ lk = 67) (hsp : sp = 30 ∨ sp = 67)  (vc : ((4 ≤ x4 → Q (some (.int x3)) h) ∧ (¬ 4 ≤ x4 → gC l G d MX4_stepFrom [.ref lk, .int x1, .int x4] h (rI fun v1 h1 => h1.2.2 = (h).2.2 ∧ gC l G d MX4_isCell [.ref lk, .int v1] h1 (rI fun v2 h2 => h2.2.2 = (h1).2.2 ∧ ((¬ v2 = 0 → ((x3 = (-1) → (vp_in v1 48 ∧ (((h2.1 50 v1.toNatClampNeg) < x2 → (vp_in v1 48 ∧ gg p l e s m args below meth c G (d + 1) MX10_calmerBeside Q 28 [some (.ref 49), some (.int x1), some (.int (h2.1 50 v1.toNatClampNeg)), some (.int v1), some (.int (x4 + 1)), none, none] [] h2)) ∧ (¬ (h2.1 50 v1.toNatClampNeg) < x2 → gg p l e s m args below meth c G (d + 1) MX10_calmerBeside Q 28 [some (.ref 49), some (.int x1), some (.int x2), some (.int x3), some (.int (x4 + 1)), none, none] [] h2)))) ∧ (¬ x3 = (-1) → (vp_in v1 48 ∧ ((¬ (h2.1 50 v1.toNatClampNeg) = x2 → (vp_in v1 48 ∧ (((h2.1 50 v1.toNatClampNeg) < x2 → (vp_in v1 48 ∧ gg p l e s m args below meth c G (d + 1) MX10_calmerBeside Q 28 [some (.ref 49), some (.int x1), some (.int (h2.1 50 v1.toNatClampNeg)), some (.int v1), some (.int (x4 + 1)), none, none] [] h2)) ∧ (¬ (h2.1 50 v1.toNatClampNeg) < x2 → gg p l e s m args below meth c G (d + 1) MX10_calmerBeside Q 28 [some (.ref 49), some (.int x1), some (.int x2), some (.int x3), some (.int (x4 + 1)), none, none] [] h2)))) ∧ ((h2.1 50 v1.toNatClampNeg) = x2 → ((x3 ≤ v1 → (vp_in v1 48 ∧ (((h2.1 50 v1.toNatClampNeg) < x2 → (vp_in v1 48 ∧ gg p l e s m args below meth c G (d + 1) MX10_calmerBeside Q 28 [some (.ref 49), some (.int x1), some (.int (h2.1 50 v1.toNatClampNeg)), some (.int v1), some (.int (x4 + 1)), none, none] [] h2)) ∧ (¬ (h2.1 50 v1.toNatClampNeg) < x2 → gg p l e s m args below meth c G (d + 1) MX10_calmerBeside Q 28 [some (.ref 49), some (.int x1), some (.int x2), some (.int x3), some (.int (x4 + 1)), none, none] [] h2)))) ∧ (¬ x3 ≤ v1 → (vp_in v1 48 ∧ (((h2.1 50 v1.toNatClampNeg) < x2 → (vp_in v1 48 ∧ gg p l e s m args below meth c G (d + 1) MX10_calmerBeside Q 28 [some (.ref 49), some (.int x1), some (.int (h2.1 50 v1.toNatClampNeg)), some (.int v1), some (.int (x4 + 1)), none, none] [] h2)) ∧ (¬ (h2.1 50 v1.toNatClampNeg) < x2 → (vp_in v1 48 ∧ gg p l e s m args below meth c G (d + 1) MX10_calmerBeside Q 28 [some (.ref 49), some (.int x1), some (.int (h2.1 50 v1.toNatClampNeg)), some (.int v1), some (.int (x4 + 1)), none, none] [] h2)))))))))))) ∧ (v2 = 0 → gg p l e s m args below meth c G (d + 1) MX10_calmerBeside Q 28 [some (.ref 49), some (.int x1), some (.int x2), some (.int x3), some (.int (x4 + 1)), none, none] [] h2))))))) : gg p l e s m args below meth c G (d + 1) MX10_calmerBeside Q 28 [some (.ref 49), some (.int x1), some (.int x2), some (.int x3), some (.int x4), none, none] [] h := by
  refine go_iload (x := x4) dX10_calmerBeside_28 rfl ?_
  refine go_iconst (v := 4) dX10_calmerBeside_30 rfl ?_
  refine go_icmp_ge 129 dX10_calmerBeside_31 rfl (fun q => ?_) (fun q => ?_)
  · replace vc := vc.1 q
    refine go_iload_n (x := x3) dX10_calmerBeside_129 rfl ?_
    exact go_iret dX10_calmerBeside_130 rfl vc rfl (Nat.le_refl _) (Nat.le_refl _)
  · replace vc := vc.2 q
    refine go_aload_n (x := 49) dX10_calmerBeside_34 rfl ?_
    refine go_getR (x := 29) dX10_calmerBeside_35 f10_21 sh49 (fun _ _ => rfl) (rf49_0 hR) ?_
    refine go_getR (x := lk) dX10_calmerBeside_38 f10_45 sh29 (fun _ _ => rfl) (rf29_2 hR) ?_
    refine go_iload_n (x := x1) dX10_calmerBeside_41 rfl ?_
    refine go_iload (x := x4) dX10_calmerBeside_42 rfl ?_
    refine gvI2 MX4_stepFrom dX10_calmerBeside_44 lX10_93 kX4_stepFrom vX4_stepFrom (slx hlk) (by decide) rfl (Nat.le_of_ble_eq_true rfl) vc ?_
    intro v1 h1 vc
    obtain ⟨hR1, vc⟩ := vc
    replace hR := hR1.trans hR
    refine go_istore dX10_calmerBeside_47 (Nat.le_of_ble_eq_true rfl) ?_
    show gg p l e s m args below meth c G (d + 1) MX10_calmerBeside Q 49 [some (.ref 49), some (.int x1), some (.int x2), some (.int x3), some (.int x4), some (.int v1), none] [] h1
    refine go_aload_n (x := 49) dX10_calmerBeside_49 rfl ?_
    refine go_getR (x := 29) dX10_calmerBeside_50 f10_21 sh49 (fun _ _ => rfl) (rf49_0 hR) ?_
    refine go_getR (x := lk) dX10_calmerBeside_53 f10_45 sh29 (fun _ _ => rfl) (rf29_2 hR) ?_
    refine go_iload (x := v1) dX10_calmerBeside_56 rfl ?_
    refine gvI1 MX4_isCell dX10_calmerBeside_58 lX10_49 kX4_isCell vX4_isCell (slx hlk) (by decide) rfl (Nat.le_of_ble_eq_true rfl) vc ?_
    intro v2 h2 vc
    obtain ⟨hR2, vc⟩ := vc
    replace hR := hR2.trans hR
    refine go_if_ne 67 dX10_calmerBeside_61 rfl (fun q => ?_) (fun q => ?_)
    · replace vc := vc.1 q
      refine go_iload_n (x := x3) dX10_calmerBeside_67 rfl ?_
      refine go_iconst (v := (-1)) dX10_calmerBeside_68 rfl ?_
      refine go_icmp_eq 93 dX10_calmerBeside_69 rfl (fun q => ?_) (fun q => ?_)
      · replace vc := vc.1 q
        refine go_iconst (v := 0) dX10_calmerBeside_93 rfl ?_
        refine go_istore dX10_calmerBeside_94 (Nat.le_of_ble_eq_true rfl) ?_
        show gg p l e s m args below meth c G (d + 1) MX10_calmerBeside Q 96 [some (.ref 49), some (.int x1), some (.int x2), some (.int x3), some (.int x4), some (.int v1), some (.int 0)] [] h2
        refine go_aload_n (x := 49) dX10_calmerBeside_96 rfl ?_
        refine go_getR (x := 50) dX10_calmerBeside_97 f10_9 sh49 (fun _ _ => rfl) (rf49_1 hR) ?_
        refine go_iload (x := v1) dX10_calmerBeside_100 rfl ?_
        refine go_iald' (v := (h2.1 50 v1.toNatClampNeg)) dX10_calmerBeside_102 sh50 vc.1 rfl ?_
        have vc := vc.2
        refine go_iload_n (x := x2) dX10_calmerBeside_103 rfl ?_
        refine go_icmp_lt 112 dX10_calmerBeside_104 rfl (fun q => ?_) (fun q => ?_)
        · replace vc := vc.1 q
          refine go_aload_n (x := 49) dX10_calmerBeside_112 rfl ?_
          refine go_getR (x := 50) dX10_calmerBeside_113 f10_9 sh49 (fun _ _ => rfl) (rf49_1 hR) ?_
          refine go_iload (x := v1) dX10_calmerBeside_116 rfl ?_
          refine go_iald' (v := (h2.1 50 v1.toNatClampNeg)) dX10_calmerBeside_118 sh50 vc.1 rfl ?_
          have vc := vc.2
          refine go_istore_n dX10_calmerBeside_119 (Nat.le_of_ble_eq_true rfl) ?_
          show gg p l e s m args below meth c G (d + 1) MX10_calmerBeside Q 120 [some (.ref 49), some (.int x1), some (.int (h2.1 50 v1.toNatClampNeg)), some (.int x3), some (.int x4), some (.int v1), some (.int 0)] [] h2
          refine go_iload (x := v1) dX10_calmerBeside_120 rfl ?_
          refine go_istore_n dX10_calmerBeside_122 (Nat.le_of_ble_eq_true rfl) ?_
          show gg p l e s m args below meth c G (d + 1) MX10_calmerBeside Q 123 [some (.ref 49), some (.int x1), some (.int (h2.1 50 v1.toNatClampNeg)), some (.int v1), some (.int x4), some (.int v1), some (.int 0)] [] h2
          refine go_iinc (x := x4) dX10_calmerBeside_123 rfl ?_
          show gg p l e s m args below meth c G (d + 1) MX10_calmerBeside Q 126 [some (.ref 49), some (.int x1), some (.int (h2.1 50 v1.toNatClampNeg)), some (.int v1), some (.int (x4 + 1)), some (.int v1), some (.int 0)] [] h2
          refine go_goto 28 dX10_calmerBeside_126 rfl ?_
          refine go_weak (ls' := [some (.ref 49), some (.int x1), some (.int (h2.1 50 v1.toNatClampNeg)), some (.int v1), some (.int (x4 + 1)), none, none]) ?_ vc
          exact (⟨rfl, ⟨rfl, ⟨rfl, ⟨rfl, ⟨rfl, trivial⟩⟩⟩⟩⟩)
        · replace vc := vc.2 q
          refine go_iload (x := 0) dX10_calmerBeside_107 rfl ?_
          refine go_if_eq 123 dX10_calmerBeside_109 rfl (fun q => ?_) (fun q => absurd q (by decide))
          refine go_iinc (x := x4) dX10_calmerBeside_123 rfl ?_
          show gg p l e s m args below meth c G (d + 1) MX10_calmerBeside Q 126 [some (.ref 49), some (.int x1), some (.int x2), some (.int x3), some (.int (x4 + 1)), some (.int v1), some (.int 0)] [] h2
          refine go_goto 28 dX10_calmerBeside_126 rfl ?_
          refine go_weak (ls' := [some (.ref 49), some (.int x1), some (.int x2), some (.int x3), some (.int (x4 + 1)), none, none]) ?_ vc
          exact (⟨rfl, ⟨rfl, ⟨rfl, ⟨rfl, ⟨rfl, trivial⟩⟩⟩⟩⟩)
      · replace vc := vc.2 q
        refine go_aload_n (x := 49) dX10_calmerBeside_72 rfl ?_
        refine go_getR (x := 50) dX10_calmerBeside_73 f10_9 sh49 (fun _ _ => rfl) (rf49_1 hR) ?_
        refine go_iload (x := v1) dX10_calmerBeside_76 rfl ?_
        refine go_iald' (v := (h2.1 50 v1.toNatClampNeg)) dX10_calmerBeside_78 sh50 vc.1 rfl ?_
        have vc := vc.2
        refine go_iload_n (x := x2) dX10_calmerBeside_79 rfl ?_
        refine go_icmp_ne 93 dX10_calmerBeside_80 rfl (fun q => ?_) (fun q => ?_)
        · replace vc := vc.1 q
          refine go_iconst (v := 0) dX10_calmerBeside_93 rfl ?_
          refine go_istore dX10_calmerBeside_94 (Nat.le_of_ble_eq_true rfl) ?_
          show gg p l e s m args below meth c G (d + 1) MX10_calmerBeside Q 96 [some (.ref 49), some (.int x1), some (.int x2), some (.int x3), some (.int x4), some (.int v1), some (.int 0)] [] h2
          refine go_aload_n (x := 49) dX10_calmerBeside_96 rfl ?_
          refine go_getR (x := 50) dX10_calmerBeside_97 f10_9 sh49 (fun _ _ => rfl) (rf49_1 hR) ?_
          refine go_iload (x := v1) dX10_calmerBeside_100 rfl ?_
          refine go_iald' (v := (h2.1 50 v1.toNatClampNeg)) dX10_calmerBeside_102 sh50 vc.1 rfl ?_
          have vc := vc.2
          refine go_iload_n (x := x2) dX10_calmerBeside_103 rfl ?_
          refine go_icmp_lt 112 dX10_calmerBeside_104 rfl (fun q => ?_) (fun q => ?_)
          · replace vc := vc.1 q
            refine go_aload_n (x := 49) dX10_calmerBeside_112 rfl ?_
            refine go_getR (x := 50) dX10_calmerBeside_113 f10_9 sh49 (fun _ _ => rfl) (rf49_1 hR) ?_
            refine go_iload (x := v1) dX10_calmerBeside_116 rfl ?_
            refine go_iald' (v := (h2.1 50 v1.toNatClampNeg)) dX10_calmerBeside_118 sh50 vc.1 rfl ?_
            have vc := vc.2
            refine go_istore_n dX10_calmerBeside_119 (Nat.le_of_ble_eq_true rfl) ?_
            show gg p l e s m args below meth c G (d + 1) MX10_calmerBeside Q 120 [some (.ref 49), some (.int x1), some (.int (h2.1 50 v1.toNatClampNeg)), some (.int x3), some (.int x4), some (.int v1), some (.int 0)] [] h2
            refine go_iload (x := v1) dX10_calmerBeside_120 rfl ?_
            refine go_istore_n dX10_calmerBeside_122 (Nat.le_of_ble_eq_true rfl) ?_
            show gg p l e s m args below meth c G (d + 1) MX10_calmerBeside Q 123 [some (.ref 49), some (.int x1), some (.int (h2.1 50 v1.toNatClampNeg)), some (.int v1), some (.int x4), some (.int v1), some (.int 0)] [] h2
            refine go_iinc (x := x4) dX10_calmerBeside_123 rfl ?_
            show gg p l e s m args below meth c G (d + 1) MX10_calmerBeside Q 126 [some (.ref 49), some (.int x1), some (.int (h2.1 50 v1.toNatClampNeg)), some (.int v1), some (.int (x4 + 1)), some (.int v1), some (.int 0)] [] h2
            refine go_goto 28 dX10_calmerBeside_126 rfl ?_
            refine go_weak (ls' := [some (.ref 49), some (.int x1), some (.int (h2.1 50 v1.toNatClampNeg)), some (.int v1), some (.int (x4 + 1)), none, none]) ?_ vc
            exact (⟨rfl, ⟨rfl, ⟨rfl, ⟨rfl, ⟨rfl, trivial⟩⟩⟩⟩⟩)
          · replace vc := vc.2 q
            refine go_iload (x := 0) dX10_calmerBeside_107 rfl ?_
            refine go_if_eq 123 dX10_calmerBeside_109 rfl (fun q => ?_) (fun q => absurd q (by decide))
            refine go_iinc (x := x4) dX10_calmerBeside_123 rfl ?_
            show gg p l e s m args below meth c G (d + 1) MX10_calmerBeside Q 126 [some (.ref 49), some (.int x1), some (.int x2), some (.int x3), some (.int (x4 + 1)), some (.int v1), some (.int 0)] [] h2
            refine go_goto 28 dX10_calmerBeside_126 rfl ?_
            refine go_weak (ls' := [some (.ref 49), some (.int x1), some (.int x2), some (.int x3), some (.int (x4 + 1)), none, none]) ?_ vc
            exact (⟨rfl, ⟨rfl, ⟨rfl, ⟨rfl, ⟨rfl, trivial⟩⟩⟩⟩⟩)
        · replace vc := vc.2 q
          refine go_iload (x := v1) dX10_calmerBeside_83 rfl ?_
          refine go_iload_n (x := x3) dX10_calmerBeside_85 rfl ?_
          refine go_icmp_ge 93 dX10_calmerBeside_86 rfl (fun q => ?_) (fun q => ?_)
          · replace vc := vc.1 q
            refine go_iconst (v := 0) dX10_calmerBeside_93 rfl ?_
            refine go_istore dX10_calmerBeside_94 (Nat.le_of_ble_eq_true rfl) ?_
            show gg p l e s m args below meth c G (d + 1) MX10_calmerBeside Q 96 [some (.ref 49), some (.int x1), some (.int x2), some (.int x3), some (.int x4), some (.int v1), some (.int 0)] [] h2
            refine go_aload_n (x := 49) dX10_calmerBeside_96 rfl ?_
            refine go_getR (x := 50) dX10_calmerBeside_97 f10_9 sh49 (fun _ _ => rfl) (rf49_1 hR) ?_
            refine go_iload (x := v1) dX10_calmerBeside_100 rfl ?_
            refine go_iald' (v := (h2.1 50 v1.toNatClampNeg)) dX10_calmerBeside_102 sh50 vc.1 rfl ?_
            have vc := vc.2
            refine go_iload_n (x := x2) dX10_calmerBeside_103 rfl ?_
            refine go_icmp_lt 112 dX10_calmerBeside_104 rfl (fun q => ?_) (fun q => ?_)
            · replace vc := vc.1 q
              refine go_aload_n (x := 49) dX10_calmerBeside_112 rfl ?_
              refine go_getR (x := 50) dX10_calmerBeside_113 f10_9 sh49 (fun _ _ => rfl) (rf49_1 hR) ?_
              refine go_iload (x := v1) dX10_calmerBeside_116 rfl ?_
              refine go_iald' (v := (h2.1 50 v1.toNatClampNeg)) dX10_calmerBeside_118 sh50 vc.1 rfl ?_
              have vc := vc.2
              refine go_istore_n dX10_calmerBeside_119 (Nat.le_of_ble_eq_true rfl) ?_
              show gg p l e s m args below meth c G (d + 1) MX10_calmerBeside Q 120 [some (.ref 49), some (.int x1), some (.int (h2.1 50 v1.toNatClampNeg)), some (.int x3), some (.int x4), some (.int v1), some (.int 0)] [] h2
              refine go_iload (x := v1) dX10_calmerBeside_120 rfl ?_
              refine go_istore_n dX10_calmerBeside_122 (Nat.le_of_ble_eq_true rfl) ?_
              show gg p l e s m args below meth c G (d + 1) MX10_calmerBeside Q 123 [some (.ref 49), some (.int x1), some (.int (h2.1 50 v1.toNatClampNeg)), some (.int v1), some (.int x4), some (.int v1), some (.int 0)] [] h2
              refine go_iinc (x := x4) dX10_calmerBeside_123 rfl ?_
              show gg p l e s m args below meth c G (d + 1) MX10_calmerBeside Q 126 [some (.ref 49), some (.int x1), some (.int (h2.1 50 v1.toNatClampNeg)), some (.int v1), some (.int (x4 + 1)), some (.int v1), some (.int 0)] [] h2
              refine go_goto 28 dX10_calmerBeside_126 rfl ?_
              refine go_weak (ls' := [some (.ref 49), some (.int x1), some (.int (h2.1 50 v1.toNatClampNeg)), some (.int v1), some (.int (x4 + 1)), none, none]) ?_ vc
              exact (⟨rfl, ⟨rfl, ⟨rfl, ⟨rfl, ⟨rfl, trivial⟩⟩⟩⟩⟩)
            · replace vc := vc.2 q
              refine go_iload (x := 0) dX10_calmerBeside_107 rfl ?_
              refine go_if_eq 123 dX10_calmerBeside_109 rfl (fun q => ?_) (fun q => absurd q (by decide))
              refine go_iinc (x := x4) dX10_calmerBeside_123 rfl ?_
              show gg p l e s m args below meth c G (d + 1) MX10_calmerBeside Q 126 [some (.ref 49), some (.int x1), some (.int x2), some (.int x3), some (.int (x4 + 1)), some (.int v1), some (.int 0)] [] h2
              refine go_goto 28 dX10_calmerBeside_126 rfl ?_
              refine go_weak (ls' := [some (.ref 49), some (.int x1), some (.int x2), some (.int x3), some (.int (x4 + 1)), none, none]) ?_ vc
              exact (⟨rfl, ⟨rfl, ⟨rfl, ⟨rfl, ⟨rfl, trivial⟩⟩⟩⟩⟩)
          · replace vc := vc.2 q
            refine go_iconst (v := 1) dX10_calmerBeside_89 rfl ?_
            refine go_goto 94 dX10_calmerBeside_90 rfl ?_
            refine go_istore dX10_calmerBeside_94 (Nat.le_of_ble_eq_true rfl) ?_
            show gg p l e s m args below meth c G (d + 1) MX10_calmerBeside Q 96 [some (.ref 49), some (.int x1), some (.int x2), some (.int x3), some (.int x4), some (.int v1), some (.int 1)] [] h2
            refine go_aload_n (x := 49) dX10_calmerBeside_96 rfl ?_
            refine go_getR (x := 50) dX10_calmerBeside_97 f10_9 sh49 (fun _ _ => rfl) (rf49_1 hR) ?_
            refine go_iload (x := v1) dX10_calmerBeside_100 rfl ?_
            refine go_iald' (v := (h2.1 50 v1.toNatClampNeg)) dX10_calmerBeside_102 sh50 vc.1 rfl ?_
            have vc := vc.2
            refine go_iload_n (x := x2) dX10_calmerBeside_103 rfl ?_
            refine go_icmp_lt 112 dX10_calmerBeside_104 rfl (fun q => ?_) (fun q => ?_)
            · replace vc := vc.1 q
              refine go_aload_n (x := 49) dX10_calmerBeside_112 rfl ?_
              refine go_getR (x := 50) dX10_calmerBeside_113 f10_9 sh49 (fun _ _ => rfl) (rf49_1 hR) ?_
              refine go_iload (x := v1) dX10_calmerBeside_116 rfl ?_
              refine go_iald' (v := (h2.1 50 v1.toNatClampNeg)) dX10_calmerBeside_118 sh50 vc.1 rfl ?_
              have vc := vc.2
              refine go_istore_n dX10_calmerBeside_119 (Nat.le_of_ble_eq_true rfl) ?_
              show gg p l e s m args below meth c G (d + 1) MX10_calmerBeside Q 120 [some (.ref 49), some (.int x1), some (.int (h2.1 50 v1.toNatClampNeg)), some (.int x3), some (.int x4), some (.int v1), some (.int 1)] [] h2
              refine go_iload (x := v1) dX10_calmerBeside_120 rfl ?_
              refine go_istore_n dX10_calmerBeside_122 (Nat.le_of_ble_eq_true rfl) ?_
              show gg p l e s m args below meth c G (d + 1) MX10_calmerBeside Q 123 [some (.ref 49), some (.int x1), some (.int (h2.1 50 v1.toNatClampNeg)), some (.int v1), some (.int x4), some (.int v1), some (.int 1)] [] h2
              refine go_iinc (x := x4) dX10_calmerBeside_123 rfl ?_
              show gg p l e s m args below meth c G (d + 1) MX10_calmerBeside Q 126 [some (.ref 49), some (.int x1), some (.int (h2.1 50 v1.toNatClampNeg)), some (.int v1), some (.int (x4 + 1)), some (.int v1), some (.int 1)] [] h2
              refine go_goto 28 dX10_calmerBeside_126 rfl ?_
              refine go_weak (ls' := [some (.ref 49), some (.int x1), some (.int (h2.1 50 v1.toNatClampNeg)), some (.int v1), some (.int (x4 + 1)), none, none]) ?_ vc
              exact (⟨rfl, ⟨rfl, ⟨rfl, ⟨rfl, ⟨rfl, trivial⟩⟩⟩⟩⟩)
            · replace vc := vc.2 q
              refine go_iload (x := 1) dX10_calmerBeside_107 rfl ?_
              refine go_if_eq 123 dX10_calmerBeside_109 rfl (fun q => absurd q (by decide)) (fun q => ?_)
              refine go_aload_n (x := 49) dX10_calmerBeside_112 rfl ?_
              refine go_getR (x := 50) dX10_calmerBeside_113 f10_9 sh49 (fun _ _ => rfl) (rf49_1 hR) ?_
              refine go_iload (x := v1) dX10_calmerBeside_116 rfl ?_
              refine go_iald' (v := (h2.1 50 v1.toNatClampNeg)) dX10_calmerBeside_118 sh50 vc.1 rfl ?_
              have vc := vc.2
              refine go_istore_n dX10_calmerBeside_119 (Nat.le_of_ble_eq_true rfl) ?_
              show gg p l e s m args below meth c G (d + 1) MX10_calmerBeside Q 120 [some (.ref 49), some (.int x1), some (.int (h2.1 50 v1.toNatClampNeg)), some (.int x3), some (.int x4), some (.int v1), some (.int 1)] [] h2
              refine go_iload (x := v1) dX10_calmerBeside_120 rfl ?_
              refine go_istore_n dX10_calmerBeside_122 (Nat.le_of_ble_eq_true rfl) ?_
              show gg p l e s m args below meth c G (d + 1) MX10_calmerBeside Q 123 [some (.ref 49), some (.int x1), some (.int (h2.1 50 v1.toNatClampNeg)), some (.int v1), some (.int x4), some (.int v1), some (.int 1)] [] h2
              refine go_iinc (x := x4) dX10_calmerBeside_123 rfl ?_
              show gg p l e s m args below meth c G (d + 1) MX10_calmerBeside Q 126 [some (.ref 49), some (.int x1), some (.int (h2.1 50 v1.toNatClampNeg)), some (.int v1), some (.int (x4 + 1)), some (.int v1), some (.int 1)] [] h2
              refine go_goto 28 dX10_calmerBeside_126 rfl ?_
              refine go_weak (ls' := [some (.ref 49), some (.int x1), some (.int (h2.1 50 v1.toNatClampNeg)), some (.int v1), some (.int (x4 + 1)), none, none]) ?_ vc
              exact (⟨rfl, ⟨rfl, ⟨rfl, ⟨rfl, ⟨rfl, trivial⟩⟩⟩⟩⟩)
    · replace vc := vc.2 q
      refine go_goto 123 dX10_calmerBeside_64 rfl ?_
      refine go_iinc (x := x4) dX10_calmerBeside_123 rfl ?_
      show gg p l e s m args below meth c G (d + 1) MX10_calmerBeside Q 126 [some (.ref 49), some (.int x1), some (.int x2), some (.int x3), some (.int (x4 + 1)), some (.int v1), none] [] h2
      refine go_goto 28 dX10_calmerBeside_126 rfl ?_
      refine go_weak (ls' := [some (.ref 49), some (.int x1), some (.int x2), some (.int x3), some (.int (x4 + 1)), none, none]) ?_ vc
      exact (⟨rfl, ⟨rfl, ⟨rfl, ⟨rfl, ⟨rfl, trivial⟩⟩⟩⟩⟩)
set_option maxRecDepth 20000 in
theorem wX11_feed_0 {p : Program} {l : Launch} {e : Env} {s : State} {m : MethodId} {args : Array Value} {below : List Frame} {meth : Method} {c : Code} {G : gG} {d : Nat} {Q : Option Value → gH → Prop} {h : gH} {lk sp : Nat} {cd : Option Nat} {a1 : Int32} {a2 : Int32} {a3 : Int32} {a4 : Int32} {a5 : Int32} (hR : h.2.2 = gRF lk sp cd) (hlk : lk = 30 ∨ lk = 67) (hsp : sp = 30 ∨ sp = 67)  (vc : ((((h.1 1 2) + 20) ≤ 1600 → gC l G d MX5_write [.ref 1, .int a1] h (rV fun h1 => h1.2.2 = (h).2.2 ∧ gC l G d MX5_write [.ref 1, .int a2] h1 (rV fun h2 => h2.2.2 = (h1).2.2 ∧ gC l G d MX5_write [.ref 1, .int a3] h2 (rV fun h3 => h3.2.2 = (h2).2.2 ∧ gC l G d MX5_write [.ref 1, .int a4] h3 (rV fun h4 => h4.2.2 = (h3).2.2 ∧ gC l G d MX5_write [.ref 1, .int a5] h4 (rV fun h5 => h5.2.2 = (h4).2.2 ∧ Q (some (.int (h5.1 1 2))) h5)))))) ∧ (¬ ((h.1 1 2) + 20) ≤ 1600 → gC l G d MX11_refuse [.ref 0, .int 0] h (rI fun v6 h6 => h6.2.2 = (h).2.2 ∧ Q (some (.int v6)) h6)))) : gg p l e s m args below meth c G (d + 1) MX11_feed Q 0 [some (.ref 0), some (.int a1), some (.int a2), some (.int a3), some (.int a4), some (.int a5)] [] h := by
  refine go_aload_n (x := 0) dX11_feed_0 rfl ?_
  refine go_getR (x := 1) dX11_feed_1 f11_12 sh0 (fun _ _ => rfl) (rf0_0 hR) ?_
  refine go_getI' (v := (h.1 1 2)) dX11_feed_4 f11_102 sh1 (fun _ _ => rfl) rfl ?_
  refine go_bipush (v := 20) dX11_feed_7 rfl ?_
  refine go_iadd dX11_feed_9 ?_
  refine go_sipush (v := 1600) dX11_feed_10 rfl ?_
  refine go_icmp_le 22 dX11_feed_13 rfl (fun q => ?_) (fun q => ?_)
  · replace vc := vc.1 q
    refine go_aload_n (x := 0) dX11_feed_22 rfl ?_
    refine go_getR (x := 1) dX11_feed_23 f11_12 sh0 (fun _ _ => rfl) (rf0_0 hR) ?_
    refine go_iload_n (x := a1) dX11_feed_26 rfl ?_
    refine gvV1 MX5_write dX11_feed_27 lX11_109 kX5_write vX5_write sh1 (by decide) rfl (Nat.le_of_ble_eq_true rfl) vc ?_
    intro h1 vc
    obtain ⟨hR1, vc⟩ := vc
    replace hR := hR1.trans hR
    refine go_aload_n (x := 0) dX11_feed_30 rfl ?_
    refine go_getR (x := 1) dX11_feed_31 f11_12 sh0 (fun _ _ => rfl) (rf0_0 hR) ?_
    refine go_iload_n (x := a2) dX11_feed_34 rfl ?_
    refine gvV1 MX5_write dX11_feed_35 lX11_109 kX5_write vX5_write sh1 (by decide) rfl (Nat.le_of_ble_eq_true rfl) vc ?_
    intro h2 vc
    obtain ⟨hR2, vc⟩ := vc
    replace hR := hR2.trans hR
    refine go_aload_n (x := 0) dX11_feed_38 rfl ?_
    refine go_getR (x := 1) dX11_feed_39 f11_12 sh0 (fun _ _ => rfl) (rf0_0 hR) ?_
    refine go_iload_n (x := a3) dX11_feed_42 rfl ?_
    refine gvV1 MX5_write dX11_feed_43 lX11_109 kX5_write vX5_write sh1 (by decide) rfl (Nat.le_of_ble_eq_true rfl) vc ?_
    intro h3 vc
    obtain ⟨hR3, vc⟩ := vc
    replace hR := hR3.trans hR
    refine go_aload_n (x := 0) dX11_feed_46 rfl ?_
    refine go_getR (x := 1) dX11_feed_47 f11_12 sh0 (fun _ _ => rfl) (rf0_0 hR) ?_
    refine go_iload (x := a4) dX11_feed_50 rfl ?_
    refine gvV1 MX5_write dX11_feed_52 lX11_109 kX5_write vX5_write sh1 (by decide) rfl (Nat.le_of_ble_eq_true rfl) vc ?_
    intro h4 vc
    obtain ⟨hR4, vc⟩ := vc
    replace hR := hR4.trans hR
    refine go_aload_n (x := 0) dX11_feed_55 rfl ?_
    refine go_getR (x := 1) dX11_feed_56 f11_12 sh0 (fun _ _ => rfl) (rf0_0 hR) ?_
    refine go_iload (x := a5) dX11_feed_59 rfl ?_
    refine gvV1 MX5_write dX11_feed_61 lX11_109 kX5_write vX5_write sh1 (by decide) rfl (Nat.le_of_ble_eq_true rfl) vc ?_
    intro h5 vc
    obtain ⟨hR5, vc⟩ := vc
    replace hR := hR5.trans hR
    refine go_aload_n (x := 0) dX11_feed_64 rfl ?_
    refine go_getR (x := 1) dX11_feed_65 f11_12 sh0 (fun _ _ => rfl) (rf0_0 hR) ?_
    refine go_getI' (v := (h5.1 1 2)) dX11_feed_68 f11_102 sh1 (fun _ _ => rfl) rfl ?_
    exact go_iret dX11_feed_71 rfl vc rfl (Nat.le_refl _) (Nat.le_refl _)
  · replace vc := vc.2 q
    refine go_aload_n (x := 0) dX11_feed_16 rfl ?_
    refine go_iconst (v := 0) dX11_feed_17 rfl ?_
    refine gvI1 MX11_refuse dX11_feed_18 lX11_105 kX11_refuse vX11_refuse sh0 (by decide) rfl (Nat.le_of_ble_eq_true rfl) vc ?_
    intro v6 h6 vc
    obtain ⟨hR6, vc⟩ := vc
    replace hR := hR6.trans hR
    exact go_iret dX11_feed_21 rfl vc rfl (Nat.le_refl _) (Nat.le_refl _)
set_option maxRecDepth 20000 in
theorem wX11_end_0 {p : Program} {l : Launch} {e : Env} {s : State} {m : MethodId} {args : Array Value} {below : List Frame} {meth : Method} {c : Code} {G : gG} {d : Nat} {Q : Option Value → gH → Prop} {h : gH} {lk sp : Nat} {cd : Option Nat} {a1 : Int32} (hR : h.2.2 = gRF lk sp cd) (hlk : lk = 30 ∨ lk = 67) (hsp : sp = 30 ∨ sp = 67)  (vc : ((a1 < 0 → gC l G d MX11_refuse [.ref 0, .int 0] h (rI fun v1 h1 => h1.2.2 = (h).2.2 ∧ Q (some (.int 0)) h1)) ∧ (¬ a1 < 0 → ((a1 ≤ (h.1 1 2) → Q (some (.int 1)) (sI h 1 2 a1)) ∧ (¬ a1 ≤ (h.1 1 2) → gC l G d MX11_refuse [.ref 0, .int 0] h (rI fun v2 h2 => h2.2.2 = (h).2.2 ∧ Q (some (.int 0)) h2)))))) : gg p l e s m args below meth c G (d + 1) MX11_end Q 0 [some (.ref 0), some (.int a1)] [] h := by
  refine go_iload_n (x := a1) dX11_end_0 rfl ?_
  refine go_if_lt 15 dX11_end_1 rfl (fun q => ?_) (fun q => ?_)
  · replace vc := vc.1 q
    refine go_aload_n (x := 0) dX11_end_15 rfl ?_
    refine go_iconst (v := 0) dX11_end_16 rfl ?_
    refine gvI1 MX11_refuse dX11_end_17 lX11_105 kX11_refuse vX11_refuse sh0 (by decide) rfl (Nat.le_of_ble_eq_true rfl) vc ?_
    intro v1 h1 vc
    obtain ⟨hR1, vc⟩ := vc
    replace hR := hR1.trans hR
    refine go_pop dX11_end_20 rfl ?_
    refine go_iconst (v := 0) dX11_end_21 rfl ?_
    exact go_zret dX11_end_22 rfl (by decide) vc rfl (Nat.le_refl _) (Nat.le_refl _)
  · replace vc := vc.2 q
    refine go_iload_n (x := a1) dX11_end_4 rfl ?_
    refine go_aload_n (x := 0) dX11_end_5 rfl ?_
    refine go_getR (x := 1) dX11_end_6 f11_12 sh0 (fun _ _ => rfl) (rf0_0 hR) ?_
    refine go_getI' (v := (h.1 1 2)) dX11_end_9 f11_102 sh1 (fun _ _ => rfl) rfl ?_
    refine go_icmp_le 23 dX11_end_12 rfl (fun q => ?_) (fun q => ?_)
    · replace vc := vc.1 q
      refine go_aload_n (x := 0) dX11_end_23 rfl ?_
      refine go_getR (x := 1) dX11_end_24 f11_12 sh0 (fun _ _ => rfl) (rf0_0 hR) ?_
      refine go_iload_n (x := a1) dX11_end_27 rfl ?_
      refine go_putI dX11_end_28 f11_102 sh1 rfl rfl ?_
      refine go_iconst (v := 1) dX11_end_31 rfl ?_
      exact go_zret dX11_end_32 rfl (by decide) vc rfl (Nat.le_refl _) (Nat.le_refl _)
    · replace vc := vc.2 q
      refine go_aload_n (x := 0) dX11_end_15 rfl ?_
      refine go_iconst (v := 0) dX11_end_16 rfl ?_
      refine gvI1 MX11_refuse dX11_end_17 lX11_105 kX11_refuse vX11_refuse sh0 (by decide) rfl (Nat.le_of_ble_eq_true rfl) vc ?_
      intro v2 h2 vc
      obtain ⟨hR2, vc⟩ := vc
      replace hR := hR2.trans hR
      refine go_pop dX11_end_20 rfl ?_
      refine go_iconst (v := 0) dX11_end_21 rfl ?_
      exact go_zret dX11_end_22 rfl (by decide) vc rfl (Nat.le_refl _) (Nat.le_refl _)
set_option maxRecDepth 20000 in
theorem wX11_lake_0 {p : Program} {l : Launch} {e : Env} {s : State} {m : MethodId} {args : Array Value} {below : List Frame} {meth : Method} {c : Code} {G : gG} {d : Nat} {Q : Option Value → gH → Prop} {h : gH} {lk sp : Nat} {cd : Option Nat}  (hR : h.2.2 = gRF lk sp cd) (hlk : lk = 30 ∨ lk = 67) (hsp : sp = 30 ∨ sp = 67)  (vc : gC l G d MX7_readLake [.ref 5, .ref sp] h (rI fun v1 h1 => (∃ cd1, h1.2.2 = gRF lk sp cd1) ∧ ((¬ v1 = 0 → gC l G d MX2_begin [.ref 6, .ref sp] (sR (sR (sI h1 1 2 0) 29 2 (some sp)) 0 11 (some lk)) (rV fun h2 => h2.2.2 = ((sR (sR (sI h1 1 2 0) 29 2 (some sp)) 0 11 (some lk))).2.2 ∧ Q (some (.int (h2.1 sp 17))) (sI h2 58 4 0))) ∧ (v1 = 0 → gC l G d MX11_refuse [.ref 0, .int 1] (sI h1 1 2 0) (rI fun v3 h3 => h3.2.2 = ((sI h1 1 2 0)).2.2 ∧ Q (some (.int v3)) h3))))) : gg p l e s m args below meth c G (d + 1) MX11_lake Q 0 [some (.ref 0), none, none] [] h := by
  refine go_aload_n (x := 0) dX11_lake_0 rfl ?_
  refine go_getR (x := 5) dX11_lake_1 f11_30 sh0 (fun _ _ => rfl) (rf0_2 hR) ?_
  refine go_aload_n (x := 0) dX11_lake_4 rfl ?_
  refine go_getR (x := sp) dX11_lake_5 f11_90 sh0 (fun _ _ => rfl) (rf0_11 hR) ?_
  refine gvI1 MX7_readLake dX11_lake_8 lX11_113 kX7_readLake vX7_readLake sh5 (by decide) rfl (Nat.le_of_ble_eq_true rfl) vc ?_
  intro v1 h1 vc
  obtain ⟨⟨cd1, hR⟩, vc⟩ := vc
  refine go_istore_n dX11_lake_11 (Nat.le_of_ble_eq_true rfl) ?_
  show gg p l e s m args below meth c G (d + 1) MX11_lake Q 12 [some (.ref 0), some (.int v1), none] [] h1
  refine go_aload_n (x := 0) dX11_lake_12 rfl ?_
  refine go_getR (x := 1) dX11_lake_13 f11_12 sh0 (fun _ _ => rfl) (rf0_0 hR) ?_
  refine go_iconst (v := 0) dX11_lake_16 rfl ?_
  refine go_putI dX11_lake_17 f11_102 sh1 rfl rfl ?_
  refine go_iload_n (x := v1) dX11_lake_20 rfl ?_
  refine go_if_ne 30 dX11_lake_21 rfl (fun q => ?_) (fun q => ?_)
  · replace vc := vc.1 q
    refine go_aload_n (x := 0) dX11_lake_30 rfl ?_
    refine go_getR (x := 29) dX11_lake_31 f11_49 sh0 (fun _ _ => rfl) (rf0_4 hR) ?_
    refine go_getR (x := lk) dX11_lake_34 f11_117 sh29 (fun _ _ => rfl) (rf29_2 hR) ?_
    refine go_astore_n dX11_lake_37 (Nat.le_of_ble_eq_true rfl) ?_
    show gg p l e s m args below meth c G (d + 1) MX11_lake Q 38 [some (.ref 0), some (.int v1), some (.ref lk)] [] (sI h1 1 2 0)
    refine go_aload_n (x := 0) dX11_lake_38 rfl ?_
    refine go_getR (x := 29) dX11_lake_39 f11_49 sh0 (fun _ _ => rfl) (rf0_4 hR) ?_
    refine go_aload_n (x := 0) dX11_lake_42 rfl ?_
    refine go_getR (x := sp) dX11_lake_43 f11_90 sh0 (fun _ _ => rfl) (rf0_11 hR) ?_
    refine go_putR (x := sp) dX11_lake_46 f11_117 sh29 rfl rfl ?_
    replace hR := sRF_lk (x := sp) hR
    refine go_aload_n (x := 0) dX11_lake_49 rfl ?_
    refine go_aload_n (x := lk) dX11_lake_50 rfl ?_
    refine go_putR (x := lk) dX11_lake_51 f11_90 sh0 rfl rfl ?_
    replace hR := sRF_sp (x := lk) hR
    refine go_aload_n (x := 0) dX11_lake_54 rfl ?_
    refine go_getR (x := 6) dX11_lake_55 f11_37 sh0 (fun _ _ => rfl) (rf0_3 hR) ?_
    refine go_aload_n (x := 0) dX11_lake_58 rfl ?_
    refine go_getR (x := 29) dX11_lake_59 f11_49 sh0 (fun _ _ => rfl) (rf0_4 hR) ?_
    refine go_getR (x := sp) dX11_lake_62 f11_117 sh29 (fun _ _ => rfl) (rf29_2 hR) ?_
    refine gvV1 MX2_begin dX11_lake_65 lX11_120 kX2_begin vX2_begin sh6 (by decide) rfl (Nat.le_of_ble_eq_true rfl) vc ?_
    intro h2 vc
    obtain ⟨hR2, vc⟩ := vc
    replace hR := hR2.trans hR
    refine go_aload_n (x := 0) dX11_lake_68 rfl ?_
    refine go_getR (x := 58) dX11_lake_69 f11_72 sh0 (fun _ _ => rfl) (rf0_7 hR) ?_
    refine go_iconst (v := 0) dX11_lake_72 rfl ?_
    refine go_putI dX11_lake_73 f11_124 sh58 rfl rfl ?_
    refine go_aload_n (x := 0) dX11_lake_76 rfl ?_
    refine go_getR (x := 29) dX11_lake_77 f11_49 sh0 (fun _ _ => rfl) (rf0_4 hR) ?_
    refine go_getR (x := sp) dX11_lake_80 f11_117 sh29 (fun _ _ => rfl) (rf29_2 hR) ?_
    refine go_getI' (v := (h2.1 sp 17)) dX11_lake_83 f11_127 (slx hsp) (fun _ _ => rfl) (by first | rfl | (rcases hsp with rfl | rfl <;> first | rfl | simp [sI, sL])) ?_
    exact go_iret dX11_lake_86 rfl vc rfl (Nat.le_refl _) (Nat.le_refl _)
  · replace vc := vc.2 q
    refine go_aload_n (x := 0) dX11_lake_24 rfl ?_
    refine go_iconst (v := 1) dX11_lake_25 rfl ?_
    refine gvI1 MX11_refuse dX11_lake_26 lX11_105 kX11_refuse vX11_refuse sh0 (by decide) rfl (Nat.le_of_ble_eq_true rfl) vc ?_
    intro v3 h3 vc
    obtain ⟨hR3, vc⟩ := vc
    replace hR := hR3.trans hR
    exact go_iret dX11_lake_29 rfl vc rfl (Nat.le_refl _) (Nat.le_refl _)
set_option maxRecDepth 20000 in
theorem wX11_fault_0 {p : Program} {l : Launch} {e : Env} {s : State} {m : MethodId} {args : Array Value} {below : List Frame} {meth : Method} {c : Code} {G : gG} {d : Nat} {Q : Option Value → gH → Prop} {h : gH} {lk sp : Nat} {cd : Option Nat} {a1 : Int32} (hR : h.2.2 = gRF lk sp cd) (hlk : lk = 30 ∨ lk = 67) (hsp : sp = 30 ∨ sp = 67)  (vc : ((a1 = 0 → Q (some (.int (h.1 1 8))) h) ∧ (a1 = 1 → Q (some (.int (h.1 1 9))) h) ∧ (¬ a1 = 0 → ¬ a1 = 1 → Q (some (.int (-1))) h))) : gg p l e s m args below meth c G d MX11_fault Q 0 [some (.ref 0), some (.int a1)] [] h := by
  refine go_iload_n (x := a1) dX11_fault_0 rfl ?_
  by_cases q0 : a1 = 0
  · refine go_lookup (off := 27) 28 dX11_fault_1 (by decide) (by rw [q0]; rfl) rfl ?_
    replace vc := vc.1 q0
    refine go_aload_n (x := 0) dX11_fault_28 rfl ?_
    refine go_getR (x := 1) dX11_fault_29 f11_12 sh0 (fun _ _ => rfl) (rf0_0 hR) ?_
    refine go_getI' (v := (h.1 1 8)) dX11_fault_32 f11_130 sh1 (fun _ _ => rfl) rfl ?_
    exact go_iret dX11_fault_35 rfl vc rfl (Nat.le_refl _) (Nat.le_refl _)
  by_cases q1 : a1 = 1
  · refine go_lookup (off := 35) 36 dX11_fault_1 (by decide) (by rw [q1]; rfl) rfl ?_
    replace vc := vc.2.1 q1
    refine go_aload_n (x := 0) dX11_fault_36 rfl ?_
    refine go_getR (x := 1) dX11_fault_37 f11_12 sh0 (fun _ _ => rfl) (rf0_0 hR) ?_
    refine go_getI' (v := (h.1 1 9)) dX11_fault_40 f11_133 sh1 (fun _ _ => rfl) rfl ?_
    exact go_iret dX11_fault_43 rfl vc rfl (Nat.le_refl _) (Nat.le_refl _)
  replace vc := vc.2.2 q0 q1
  refine go_lookup 44 dX11_fault_1 (by decide) ((lv_osw q0 rfl).trans ((lv_osw q1 rfl).trans rfl)) rfl ?_
  refine go_iconst (v := (-1)) dX11_fault_44 rfl ?_
  exact go_iret dX11_fault_45 rfl vc rfl (Nat.le_refl _) (Nat.le_refl _)
set_option maxRecDepth 20000 in
theorem wX11_has_0 {p : Program} {l : Launch} {e : Env} {s : State} {m : MethodId} {args : Array Value} {below : List Frame} {meth : Method} {c : Code} {G : gG} {d : Nat} {Q : Option Value → gH → Prop} {h : gH} {lk sp : Nat} {cd : Option Nat} {a1 : Int32} (hR : h.2.2 = gRF lk sp cd) (hlk : lk = 30 ∨ lk = 67) (hsp : sp = 30 ∨ sp = 67)  (vc : ((a1 = 0 → Q (some (.int (h.1 lk 11))) h) ∧ (a1 = 1 → Q (some (.int (h.1 lk 12))) h) ∧ (a1 = 2 → Q (some (.int (h.1 lk 13))) h) ∧ (a1 = 3 → Q (some (.int (h.1 lk 14))) h) ∧ (a1 = 4 → gC l G d MX2_hour [.ref 6] h (rI fun v1 h1 => h1.2.2 = (h).2.2 ∧ Q (some (.int v1)) h1)) ∧ (a1 = 5 → gC l G d MX2_hour [.ref 6] h (rI fun v2 h2 => h2.2.2 = (h).2.2 ∧ gC l G d MX4_skyAt [.ref lk, .int v2] h2 (rI fun v3 h3 => h3.2.2 = (h2).2.2 ∧ Q (some (.int v3)) h3))) ∧ (a1 = 6 → gC l G d MX2_coins [.ref 6] h (rI fun v4 h4 => h4.2.2 = (h).2.2 ∧ Q (some (.int v4)) h4)) ∧ (a1 = 7 → gC l G d MX2_allBalks [.ref 6] h (rI fun v5 h5 => h5.2.2 = (h).2.2 ∧ Q (some (.int v5)) h5)) ∧ (a1 = 8 → gC l G d MX2_allTrust [.ref 6] h (rI fun v6 h6 => h6.2.2 = (h).2.2 ∧ Q (some (.int v6)) h6)) ∧ (a1 = 9 → gC l G d MX2_tellable [.ref 6] h (rI fun v7 h7 => h7.2.2 = (h).2.2 ∧ Q (some (.int v7)) h7)) ∧ (a1 = 10 → Q (some (.int (h.1 58 4))) h) ∧ (a1 = 11 → Q (some (.int (h.1 6 4))) h) ∧ (¬ a1 = 0 → ¬ a1 = 1 → ¬ a1 = 2 → ¬ a1 = 3 → ¬ a1 = 4 → ¬ a1 = 5 → ¬ a1 = 6 → ¬ a1 = 7 → ¬ a1 = 8 → ¬ a1 = 9 → ¬ a1 = 10 → ¬ a1 = 11 → Q (some (.int (-1))) h))) : gg p l e s m args below meth c G (d + 1) MX11_has Q 0 [some (.ref 0), some (.int a1), none] [] h := by
  refine go_aload_n (x := 0) dX11_has_0 rfl ?_
  refine go_getR (x := 29) dX11_has_1 f11_49 sh0 (fun _ _ => rfl) (rf0_4 hR) ?_
  refine go_getR (x := lk) dX11_has_4 f11_117 sh29 (fun _ _ => rfl) (rf29_2 hR) ?_
  refine go_astore_n dX11_has_7 (Nat.le_of_ble_eq_true rfl) ?_
  show gg p l e s m args below meth c G (d + 1) MX11_has Q 8 [some (.ref 0), some (.int a1), some (.ref lk)] [] h
  refine go_iload_n (x := a1) dX11_has_8 rfl ?_
  by_cases q0 : a1 = 0
  · refine go_tableIn (off := 63) 72 dX11_has_9 (by rw [q0]; decide) (by rw [q0]; decide) (by rw [q0]; rfl) rfl ?_
    replace vc := vc.1 q0
    refine go_aload_n (x := lk) dX11_has_72 rfl ?_
    refine go_getI' (v := (h.1 lk 11)) dX11_has_73 f11_136 (slx hlk) (fun _ _ => rfl) rfl ?_
    exact go_iret dX11_has_76 rfl vc rfl (Nat.le_refl _) (Nat.le_refl _)
  by_cases q1 : a1 = 1
  · refine go_tableIn (off := 68) 77 dX11_has_9 (by rw [q1]; decide) (by rw [q1]; decide) (by rw [q1]; rfl) rfl ?_
    replace vc := vc.2.1 q1
    refine go_aload_n (x := lk) dX11_has_77 rfl ?_
    refine go_getI' (v := (h.1 lk 12)) dX11_has_78 f11_139 (slx hlk) (fun _ _ => rfl) rfl ?_
    exact go_iret dX11_has_81 rfl vc rfl (Nat.le_refl _) (Nat.le_refl _)
  by_cases q2 : a1 = 2
  · refine go_tableIn (off := 73) 82 dX11_has_9 (by rw [q2]; decide) (by rw [q2]; decide) (by rw [q2]; rfl) rfl ?_
    replace vc := vc.2.2.1 q2
    refine go_aload_n (x := lk) dX11_has_82 rfl ?_
    refine go_getI' (v := (h.1 lk 13)) dX11_has_83 f11_142 (slx hlk) (fun _ _ => rfl) rfl ?_
    exact go_iret dX11_has_86 rfl vc rfl (Nat.le_refl _) (Nat.le_refl _)
  by_cases q3 : a1 = 3
  · refine go_tableIn (off := 78) 87 dX11_has_9 (by rw [q3]; decide) (by rw [q3]; decide) (by rw [q3]; rfl) rfl ?_
    replace vc := vc.2.2.2.1 q3
    refine go_aload_n (x := lk) dX11_has_87 rfl ?_
    refine go_getI' (v := (h.1 lk 14)) dX11_has_88 f11_145 (slx hlk) (fun _ _ => rfl) rfl ?_
    exact go_iret dX11_has_91 rfl vc rfl (Nat.le_refl _) (Nat.le_refl _)
  by_cases q4 : a1 = 4
  · refine go_tableIn (off := 83) 92 dX11_has_9 (by rw [q4]; decide) (by rw [q4]; decide) (by rw [q4]; rfl) rfl ?_
    replace vc := vc.2.2.2.2.1 q4
    refine go_aload_n (x := 0) dX11_has_92 rfl ?_
    refine go_getR (x := 6) dX11_has_93 f11_37 sh0 (fun _ _ => rfl) (rf0_3 hR) ?_
    refine gvI0 MX2_hour dX11_has_96 lX11_148 kX2_hour vX2_hour sh6 (by decide) rfl (Nat.le_of_ble_eq_true rfl) vc ?_
    intro v1 h1 vc
    obtain ⟨hR1, vc⟩ := vc
    replace hR := hR1.trans hR
    exact go_iret dX11_has_99 rfl vc rfl (Nat.le_refl _) (Nat.le_refl _)
  by_cases q5 : a1 = 5
  · refine go_tableIn (off := 91) 100 dX11_has_9 (by rw [q5]; decide) (by rw [q5]; decide) (by rw [q5]; rfl) rfl ?_
    replace vc := vc.2.2.2.2.2.1 q5
    refine go_aload_n (x := lk) dX11_has_100 rfl ?_
    refine go_aload_n (x := 0) dX11_has_101 rfl ?_
    refine go_getR (x := 6) dX11_has_102 f11_37 sh0 (fun _ _ => rfl) (rf0_3 hR) ?_
    refine gvI0 MX2_hour dX11_has_105 lX11_148 kX2_hour vX2_hour sh6 (by decide) rfl (Nat.le_of_ble_eq_true rfl) vc ?_
    intro v2 h2 vc
    obtain ⟨hR2, vc⟩ := vc
    replace hR := hR2.trans hR
    refine gvI1 MX4_skyAt dX11_has_108 lX11_152 kX4_skyAt vX4_skyAt (slx hlk) (by decide) rfl (Nat.le_of_ble_eq_true rfl) vc ?_
    intro v3 h3 vc
    obtain ⟨hR3, vc⟩ := vc
    replace hR := hR3.trans hR
    exact go_iret dX11_has_111 rfl vc rfl (Nat.le_refl _) (Nat.le_refl _)
  by_cases q6 : a1 = 6
  · refine go_tableIn (off := 103) 112 dX11_has_9 (by rw [q6]; decide) (by rw [q6]; decide) (by rw [q6]; rfl) rfl ?_
    replace vc := vc.2.2.2.2.2.2.1 q6
    refine go_aload_n (x := 0) dX11_has_112 rfl ?_
    refine go_getR (x := 6) dX11_has_113 f11_37 sh0 (fun _ _ => rfl) (rf0_3 hR) ?_
    refine gvI0 MX2_coins dX11_has_116 lX11_155 kX2_coins vX2_coins sh6 (by decide) rfl (Nat.le_of_ble_eq_true rfl) vc ?_
    intro v4 h4 vc
    obtain ⟨hR4, vc⟩ := vc
    replace hR := hR4.trans hR
    exact go_iret dX11_has_119 rfl vc rfl (Nat.le_refl _) (Nat.le_refl _)
  by_cases q7 : a1 = 7
  · refine go_tableIn (off := 111) 120 dX11_has_9 (by rw [q7]; decide) (by rw [q7]; decide) (by rw [q7]; rfl) rfl ?_
    replace vc := vc.2.2.2.2.2.2.2.1 q7
    refine go_aload_n (x := 0) dX11_has_120 rfl ?_
    refine go_getR (x := 6) dX11_has_121 f11_37 sh0 (fun _ _ => rfl) (rf0_3 hR) ?_
    refine gvI0 MX2_allBalks dX11_has_124 lX11_158 kX2_allBalks vX2_allBalks sh6 (by decide) rfl (Nat.le_of_ble_eq_true rfl) vc ?_
    intro v5 h5 vc
    obtain ⟨hR5, vc⟩ := vc
    replace hR := hR5.trans hR
    exact go_iret dX11_has_127 rfl vc rfl (Nat.le_refl _) (Nat.le_refl _)
  by_cases q8 : a1 = 8
  · refine go_tableIn (off := 119) 128 dX11_has_9 (by rw [q8]; decide) (by rw [q8]; decide) (by rw [q8]; rfl) rfl ?_
    replace vc := vc.2.2.2.2.2.2.2.2.1 q8
    refine go_aload_n (x := 0) dX11_has_128 rfl ?_
    refine go_getR (x := 6) dX11_has_129 f11_37 sh0 (fun _ _ => rfl) (rf0_3 hR) ?_
    refine gvI0 MX2_allTrust dX11_has_132 lX11_161 kX2_allTrust vX2_allTrust sh6 (by decide) rfl (Nat.le_of_ble_eq_true rfl) vc ?_
    intro v6 h6 vc
    obtain ⟨hR6, vc⟩ := vc
    replace hR := hR6.trans hR
    exact go_iret dX11_has_135 rfl vc rfl (Nat.le_refl _) (Nat.le_refl _)
  by_cases q9 : a1 = 9
  · refine go_tableIn (off := 127) 136 dX11_has_9 (by rw [q9]; decide) (by rw [q9]; decide) (by rw [q9]; rfl) rfl ?_
    replace vc := vc.2.2.2.2.2.2.2.2.2.1 q9
    refine go_aload_n (x := 0) dX11_has_136 rfl ?_
    refine go_getR (x := 6) dX11_has_137 f11_37 sh0 (fun _ _ => rfl) (rf0_3 hR) ?_
    refine gvI0 MX2_tellable dX11_has_140 lX11_164 kX2_tellable vX2_tellable sh6 (by decide) rfl (Nat.le_of_ble_eq_true rfl) vc ?_
    intro v7 h7 vc
    obtain ⟨hR7, vc⟩ := vc
    replace hR := hR7.trans hR
    exact go_iret dX11_has_143 rfl vc rfl (Nat.le_refl _) (Nat.le_refl _)
  by_cases q10 : a1 = 10
  · refine go_tableIn (off := 135) 144 dX11_has_9 (by rw [q10]; decide) (by rw [q10]; decide) (by rw [q10]; rfl) rfl ?_
    replace vc := vc.2.2.2.2.2.2.2.2.2.2.1 q10
    refine go_aload_n (x := 0) dX11_has_144 rfl ?_
    refine go_getR (x := 58) dX11_has_145 f11_72 sh0 (fun _ _ => rfl) (rf0_7 hR) ?_
    refine go_getI' (v := (h.1 58 4)) dX11_has_148 f11_124 sh58 (fun _ _ => rfl) rfl ?_
    exact go_iret dX11_has_151 rfl vc rfl (Nat.le_refl _) (Nat.le_refl _)
  by_cases q11 : a1 = 11
  · refine go_tableIn (off := 143) 152 dX11_has_9 (by rw [q11]; decide) (by rw [q11]; decide) (by rw [q11]; rfl) rfl ?_
    replace vc := vc.2.2.2.2.2.2.2.2.2.2.2.1 q11
    refine go_aload_n (x := 0) dX11_has_152 rfl ?_
    refine go_getR (x := 6) dX11_has_153 f11_37 sh0 (fun _ _ => rfl) (rf0_3 hR) ?_
    refine go_getI' (v := (h.1 6 4)) dX11_has_156 f11_167 sh6 (fun _ _ => rfl) rfl ?_
    exact go_iret dX11_has_159 rfl vc rfl (Nat.le_refl _) (Nat.le_refl _)
  replace vc := vc.2.2.2.2.2.2.2.2.2.2.2.2 q0 q1 q2 q3 q4 q5 q6 q7 q8 q9 q10 q11
  refine go_tableOut 160 dX11_has_9 ?_ rfl ?_
  · have e0 : ¬ (a1).toInt = 0 := lv_neT q0 rfl; have e1 : ¬ (a1).toInt = 1 := lv_neT q1 rfl; have e2 : ¬ (a1).toInt = 2 := lv_neT q2 rfl; have e3 : ¬ (a1).toInt = 3 := lv_neT q3 rfl; have e4 : ¬ (a1).toInt = 4 := lv_neT q4 rfl; have e5 : ¬ (a1).toInt = 5 := lv_neT q5 rfl; have e6 : ¬ (a1).toInt = 6 := lv_neT q6 rfl; have e7 : ¬ (a1).toInt = 7 := lv_neT q7 rfl; have e8 : ¬ (a1).toInt = 8 := lv_neT q8 rfl; have e9 : ¬ (a1).toInt = 9 := lv_neT q9 rfl; have e10 : ¬ (a1).toInt = 10 := lv_neT q10 rfl; have e11 : ¬ (a1).toInt = 11 := lv_neT q11 rfl
    omega
  refine go_iconst (v := (-1)) dX11_has_160 rfl ?_
  exact go_iret dX11_has_161 rfl vc rfl (Nat.le_refl _) (Nat.le_refl _)
set_option maxRecDepth 20000 in
theorem wX11_letter_0 {p : Program} {l : Launch} {e : Env} {s : State} {m : MethodId} {args : Array Value} {below : List Frame} {meth : Method} {c : Code} {G : gG} {d : Nat} {Q : Option Value → gH → Prop} {h : gH} {lk sp : Nat} {cd : Option Nat} {a1 : Int32} {a2 : Int32} {a3 : Int32} (hR : h.2.2 = gRF lk sp cd) (hlk : lk = 30 ∨ lk = 67) (hsp : sp = 30 ∨ sp = 67)  (vc : ((a3 < 0 → Q (some (.int (-1))) h) ∧ (¬ a3 < 0 → ((a3 < 6 → ((¬ a1 = 0 → ((¬ a1 = 1 → Q (some (.int (-1))) h) ∧ (a1 = 1 → gC l G d MX4_isHand [.ref lk, .int a2] h (rI fun v1 h1 => h1.2.2 = (h).2.2 ∧ ((v1 = 0 → Q (some (.int (-1))) h1) ∧ (¬ v1 = 0 → (vp_in a2 6 ∧ gC l G d MX11_letterOf [.int (h1.1 (lk + 6) a2.toNatClampNeg), .int a3] h1 (rI fun v2 h2 => h2.2.2 = (h1).2.2 ∧ Q (some (.int v2)) h2)))))))) ∧ (a1 = 0 → gC l G d MX4_isBoat [.ref lk, .int a2] h (rI fun v3 h3 => h3.2.2 = (h).2.2 ∧ ((v3 = 0 → ((¬ a1 = 1 → Q (some (.int (-1))) h3) ∧ (a1 = 1 → gC l G d MX4_isHand [.ref lk, .int a2] h3 (rI fun v4 h4 => h4.2.2 = (h3).2.2 ∧ ((v4 = 0 → Q (some (.int (-1))) h4) ∧ (¬ v4 = 0 → (vp_in a2 6 ∧ gC l G d MX11_letterOf [.int (h4.1 (lk + 6) a2.toNatClampNeg), .int a3] h4 (rI fun v5 h5 => h5.2.2 = (h4).2.2 ∧ Q (some (.int v5)) h5)))))))) ∧ (¬ v3 = 0 → (vp_in a2 6 ∧ gC l G d MX11_letterOf [.int (h3.1 (lk + 3) a2.toNatClampNeg), .int a3] h3 (rI fun v6 h6 => h6.2.2 = (h3).2.2 ∧ Q (some (.int v6)) h6)))))))) ∧ (¬ a3 < 6 → Q (some (.int (-1))) h))))) : gg p l e s m args below meth c G (d + 1) MX11_letter Q 0 [some (.ref 0), some (.int a1), some (.int a2), some (.int a3)] [] h := by
  refine go_iload_n (x := a3) dX11_letter_0 rfl ?_
  refine go_if_lt 10 dX11_letter_1 rfl (fun q => ?_) (fun q => ?_)
  · replace vc := vc.1 q
    refine go_iconst (v := (-1)) dX11_letter_10 rfl ?_
    exact go_iret dX11_letter_11 rfl vc rfl (Nat.le_refl _) (Nat.le_refl _)
  · replace vc := vc.2 q
    refine go_iload_n (x := a3) dX11_letter_4 rfl ?_
    refine go_bipush (v := 6) dX11_letter_5 rfl ?_
    refine go_icmp_lt 12 dX11_letter_7 rfl (fun q => ?_) (fun q => ?_)
    · replace vc := vc.1 q
      refine go_iload_n (x := a1) dX11_letter_12 rfl ?_
      refine go_if_ne 47 dX11_letter_13 rfl (fun q => ?_) (fun q => ?_)
      · replace vc := vc.1 q
        refine go_iload_n (x := a1) dX11_letter_47 rfl ?_
        refine go_iconst (v := 1) dX11_letter_48 rfl ?_
        refine go_icmp_ne 83 dX11_letter_49 rfl (fun q => ?_) (fun q => ?_)
        · replace vc := vc.1 q
          refine go_iconst (v := (-1)) dX11_letter_83 rfl ?_
          exact go_iret dX11_letter_84 rfl vc rfl (Nat.le_refl _) (Nat.le_refl _)
        · replace vc := vc.2 q
          refine go_aload_n (x := 0) dX11_letter_52 rfl ?_
          refine go_getR (x := 29) dX11_letter_53 f11_49 sh0 (fun _ _ => rfl) (rf0_4 hR) ?_
          refine go_getR (x := lk) dX11_letter_56 f11_117 sh29 (fun _ _ => rfl) (rf29_2 hR) ?_
          refine go_iload_n (x := a2) dX11_letter_59 rfl ?_
          refine gvI1 MX4_isHand dX11_letter_60 lX11_181 kX4_isHand vX4_isHand (slx hlk) (by decide) rfl (Nat.le_of_ble_eq_true rfl) vc ?_
          intro v1 h1 vc
          obtain ⟨hR1, vc⟩ := vc
          replace hR := hR1.trans hR
          refine go_if_eq 83 dX11_letter_63 rfl (fun q => ?_) (fun q => ?_)
          · replace vc := vc.1 q
            refine go_iconst (v := (-1)) dX11_letter_83 rfl ?_
            exact go_iret dX11_letter_84 rfl vc rfl (Nat.le_refl _) (Nat.le_refl _)
          · replace vc := vc.2 q
            refine go_aload_n (x := 0) dX11_letter_66 rfl ?_
            refine go_getR (x := 29) dX11_letter_67 f11_49 sh0 (fun _ _ => rfl) (rf0_4 hR) ?_
            refine go_getR (x := lk) dX11_letter_70 f11_117 sh29 (fun _ _ => rfl) (rf29_2 hR) ?_
            refine go_getR (x := (lk + 6)) dX11_letter_73 f11_184 (slx hlk) (fun _ _ => rfl) (rl_s hR hlk (by decide)) ?_
            refine go_iload_n (x := a2) dX11_letter_76 rfl ?_
            refine go_iald' (v := (h1.1 (lk + 6) a2.toNatClampNeg)) dX11_letter_77 (sl6 hlk) vc.1 rfl ?_
            have vc := vc.2
            refine go_iload_n (x := a3) dX11_letter_78 rfl ?_
            refine gsI2 MX11_letterOf dX11_letter_79 lX11_177 kX11_letterOf sX11_letterOf (Nat.le_of_ble_eq_true rfl) vc ?_
            intro v2 h2 vc
            obtain ⟨hR2, vc⟩ := vc
            replace hR := hR2.trans hR
            exact go_iret dX11_letter_82 rfl vc rfl (Nat.le_refl _) (Nat.le_refl _)
      · replace vc := vc.2 q
        refine go_aload_n (x := 0) dX11_letter_16 rfl ?_
        refine go_getR (x := 29) dX11_letter_17 f11_49 sh0 (fun _ _ => rfl) (rf0_4 hR) ?_
        refine go_getR (x := lk) dX11_letter_20 f11_117 sh29 (fun _ _ => rfl) (rf29_2 hR) ?_
        refine go_iload_n (x := a2) dX11_letter_23 rfl ?_
        refine gvI1 MX4_isBoat dX11_letter_24 lX11_170 kX4_isBoat vX4_isBoat (slx hlk) (by decide) rfl (Nat.le_of_ble_eq_true rfl) vc ?_
        intro v3 h3 vc
        obtain ⟨hR3, vc⟩ := vc
        replace hR := hR3.trans hR
        refine go_if_eq 47 dX11_letter_27 rfl (fun q => ?_) (fun q => ?_)
        · replace vc := vc.1 q
          refine go_iload_n (x := a1) dX11_letter_47 rfl ?_
          refine go_iconst (v := 1) dX11_letter_48 rfl ?_
          refine go_icmp_ne 83 dX11_letter_49 rfl (fun q => ?_) (fun q => ?_)
          · replace vc := vc.1 q
            refine go_iconst (v := (-1)) dX11_letter_83 rfl ?_
            exact go_iret dX11_letter_84 rfl vc rfl (Nat.le_refl _) (Nat.le_refl _)
          · replace vc := vc.2 q
            refine go_aload_n (x := 0) dX11_letter_52 rfl ?_
            refine go_getR (x := 29) dX11_letter_53 f11_49 sh0 (fun _ _ => rfl) (rf0_4 hR) ?_
            refine go_getR (x := lk) dX11_letter_56 f11_117 sh29 (fun _ _ => rfl) (rf29_2 hR) ?_
            refine go_iload_n (x := a2) dX11_letter_59 rfl ?_
            refine gvI1 MX4_isHand dX11_letter_60 lX11_181 kX4_isHand vX4_isHand (slx hlk) (by decide) rfl (Nat.le_of_ble_eq_true rfl) vc ?_
            intro v4 h4 vc
            obtain ⟨hR4, vc⟩ := vc
            replace hR := hR4.trans hR
            refine go_if_eq 83 dX11_letter_63 rfl (fun q => ?_) (fun q => ?_)
            · replace vc := vc.1 q
              refine go_iconst (v := (-1)) dX11_letter_83 rfl ?_
              exact go_iret dX11_letter_84 rfl vc rfl (Nat.le_refl _) (Nat.le_refl _)
            · replace vc := vc.2 q
              refine go_aload_n (x := 0) dX11_letter_66 rfl ?_
              refine go_getR (x := 29) dX11_letter_67 f11_49 sh0 (fun _ _ => rfl) (rf0_4 hR) ?_
              refine go_getR (x := lk) dX11_letter_70 f11_117 sh29 (fun _ _ => rfl) (rf29_2 hR) ?_
              refine go_getR (x := (lk + 6)) dX11_letter_73 f11_184 (slx hlk) (fun _ _ => rfl) (rl_s hR hlk (by decide)) ?_
              refine go_iload_n (x := a2) dX11_letter_76 rfl ?_
              refine go_iald' (v := (h4.1 (lk + 6) a2.toNatClampNeg)) dX11_letter_77 (sl6 hlk) vc.1 rfl ?_
              have vc := vc.2
              refine go_iload_n (x := a3) dX11_letter_78 rfl ?_
              refine gsI2 MX11_letterOf dX11_letter_79 lX11_177 kX11_letterOf sX11_letterOf (Nat.le_of_ble_eq_true rfl) vc ?_
              intro v5 h5 vc
              obtain ⟨hR5, vc⟩ := vc
              replace hR := hR5.trans hR
              exact go_iret dX11_letter_82 rfl vc rfl (Nat.le_refl _) (Nat.le_refl _)
        · replace vc := vc.2 q
          refine go_aload_n (x := 0) dX11_letter_30 rfl ?_
          refine go_getR (x := 29) dX11_letter_31 f11_49 sh0 (fun _ _ => rfl) (rf0_4 hR) ?_
          refine go_getR (x := lk) dX11_letter_34 f11_117 sh29 (fun _ _ => rfl) (rf29_2 hR) ?_
          refine go_getR (x := (lk + 3)) dX11_letter_37 f11_174 (slx hlk) (fun _ _ => rfl) (rl_s hR hlk (by decide)) ?_
          refine go_iload_n (x := a2) dX11_letter_40 rfl ?_
          refine go_iald' (v := (h3.1 (lk + 3) a2.toNatClampNeg)) dX11_letter_41 (sl3 hlk) vc.1 rfl ?_
          have vc := vc.2
          refine go_iload_n (x := a3) dX11_letter_42 rfl ?_
          refine gsI2 MX11_letterOf dX11_letter_43 lX11_177 kX11_letterOf sX11_letterOf (Nat.le_of_ble_eq_true rfl) vc ?_
          intro v6 h6 vc
          obtain ⟨hR6, vc⟩ := vc
          replace hR := hR6.trans hR
          exact go_iret dX11_letter_46 rfl vc rfl (Nat.le_refl _) (Nat.le_refl _)
    · replace vc := vc.2 q
      refine go_iconst (v := (-1)) dX11_letter_10 rfl ?_
      exact go_iret dX11_letter_11 rfl vc rfl (Nat.le_refl _) (Nat.le_refl _)
set_option maxRecDepth 20000 in
theorem wX11_boat_0 {p : Program} {l : Launch} {e : Env} {s : State} {m : MethodId} {args : Array Value} {below : List Frame} {meth : Method} {c : Code} {G : gG} {d : Nat} {Q : Option Value → gH → Prop} {h : gH} {lk sp : Nat} {cd : Option Nat} {a1 : Int32} {a2 : Int32} (hR : h.2.2 = gRF lk sp cd) (hlk : lk = 30 ∨ lk = 67) (hsp : sp = 30 ∨ sp = 67)  (vc : gC l G d MX4_isBoat [.ref lk, .int a1] h (rI fun v1 h1 => h1.2.2 = (h).2.2 ∧ ((¬ v1 = 0 → ((a2 = 0 → gC l G d MX2_cellOf [.ref 6, .int a1] h1 (rI fun v2 h2 => h2.2.2 = (h1).2.2 ∧ Q (some (.int v2)) h2)) ∧ (a2 = 1 → gC l G d MX2_trustOf [.ref 6, .int a1] h1 (rI fun v3 h3 => h3.2.2 = (h1).2.2 ∧ Q (some (.int v3)) h3)) ∧ (a2 = 2 → gC l G d MX2_balksOf [.ref 6, .int a1] h1 (rI fun v4 h4 => h4.2.2 = (h1).2.2 ∧ Q (some (.int v4)) h4)) ∧ (a2 = 3 → gC l G d MX2_handOf [.ref 6, .int a1] h1 (rI fun v5 h5 => h5.2.2 = (h1).2.2 ∧ Q (some (.int v5)) h5)) ∧ (a2 = 4 → (vp_in a1 6 ∧ Q (some (.int (h1.1 (lk + 5) a1.toNatClampNeg))) h1)) ∧ (¬ a2 = 0 → ¬ a2 = 1 → ¬ a2 = 2 → ¬ a2 = 3 → ¬ a2 = 4 → Q (some (.int (-1))) h1))) ∧ (v1 = 0 → Q (some (.int (-1))) h1)))) : gg p l e s m args below meth c G (d + 1) MX11_boat Q 0 [some (.ref 0), some (.int a1), some (.int a2)] [] h := by
  refine go_aload_n (x := 0) dX11_boat_0 rfl ?_
  refine go_getR (x := 29) dX11_boat_1 f11_49 sh0 (fun _ _ => rfl) (rf0_4 hR) ?_
  refine go_getR (x := lk) dX11_boat_4 f11_117 sh29 (fun _ _ => rfl) (rf29_2 hR) ?_
  refine go_iload_n (x := a1) dX11_boat_7 rfl ?_
  refine gvI1 MX4_isBoat dX11_boat_8 lX11_170 kX4_isBoat vX4_isBoat (slx hlk) (by decide) rfl (Nat.le_of_ble_eq_true rfl) vc ?_
  intro v1 h1 vc
  obtain ⟨hR1, vc⟩ := vc
  replace hR := hR1.trans hR
  refine go_if_ne 16 dX11_boat_11 rfl (fun q => ?_) (fun q => ?_)
  · replace vc := vc.1 q
    refine go_iload_n (x := a2) dX11_boat_16 rfl ?_
    by_cases q0 : a2 = 0
    · refine go_tableIn (off := 35) 52 dX11_boat_17 (by rw [q0]; decide) (by rw [q0]; decide) (by rw [q0]; rfl) rfl ?_
      replace vc := vc.1 q0
      refine go_aload_n (x := 0) dX11_boat_52 rfl ?_
      refine go_getR (x := 6) dX11_boat_53 f11_37 sh0 (fun _ _ => rfl) (rf0_3 hR) ?_
      refine go_iload_n (x := a1) dX11_boat_56 rfl ?_
      refine gvI1 MX2_cellOf dX11_boat_57 lX11_187 kX2_cellOf vX2_cellOf sh6 (by decide) rfl (Nat.le_of_ble_eq_true rfl) vc ?_
      intro v2 h2 vc
      obtain ⟨hR2, vc⟩ := vc
      replace hR := hR2.trans hR
      exact go_iret dX11_boat_60 rfl vc rfl (Nat.le_refl _) (Nat.le_refl _)
    by_cases q1 : a2 = 1
    · refine go_tableIn (off := 44) 61 dX11_boat_17 (by rw [q1]; decide) (by rw [q1]; decide) (by rw [q1]; rfl) rfl ?_
      replace vc := vc.2.1 q1
      refine go_aload_n (x := 0) dX11_boat_61 rfl ?_
      refine go_getR (x := 6) dX11_boat_62 f11_37 sh0 (fun _ _ => rfl) (rf0_3 hR) ?_
      refine go_iload_n (x := a1) dX11_boat_65 rfl ?_
      refine gvI1 MX2_trustOf dX11_boat_66 lX11_190 kX2_trustOf vX2_trustOf sh6 (by decide) rfl (Nat.le_of_ble_eq_true rfl) vc ?_
      intro v3 h3 vc
      obtain ⟨hR3, vc⟩ := vc
      replace hR := hR3.trans hR
      exact go_iret dX11_boat_69 rfl vc rfl (Nat.le_refl _) (Nat.le_refl _)
    by_cases q2 : a2 = 2
    · refine go_tableIn (off := 53) 70 dX11_boat_17 (by rw [q2]; decide) (by rw [q2]; decide) (by rw [q2]; rfl) rfl ?_
      replace vc := vc.2.2.1 q2
      refine go_aload_n (x := 0) dX11_boat_70 rfl ?_
      refine go_getR (x := 6) dX11_boat_71 f11_37 sh0 (fun _ _ => rfl) (rf0_3 hR) ?_
      refine go_iload_n (x := a1) dX11_boat_74 rfl ?_
      refine gvI1 MX2_balksOf dX11_boat_75 lX11_193 kX2_balksOf vX2_balksOf sh6 (by decide) rfl (Nat.le_of_ble_eq_true rfl) vc ?_
      intro v4 h4 vc
      obtain ⟨hR4, vc⟩ := vc
      replace hR := hR4.trans hR
      exact go_iret dX11_boat_78 rfl vc rfl (Nat.le_refl _) (Nat.le_refl _)
    by_cases q3 : a2 = 3
    · refine go_tableIn (off := 62) 79 dX11_boat_17 (by rw [q3]; decide) (by rw [q3]; decide) (by rw [q3]; rfl) rfl ?_
      replace vc := vc.2.2.2.1 q3
      refine go_aload_n (x := 0) dX11_boat_79 rfl ?_
      refine go_getR (x := 6) dX11_boat_80 f11_37 sh0 (fun _ _ => rfl) (rf0_3 hR) ?_
      refine go_iload_n (x := a1) dX11_boat_83 rfl ?_
      refine gvI1 MX2_handOf dX11_boat_84 lX11_196 kX2_handOf vX2_handOf sh6 (by decide) rfl (Nat.le_of_ble_eq_true rfl) vc ?_
      intro v5 h5 vc
      obtain ⟨hR5, vc⟩ := vc
      replace hR := hR5.trans hR
      exact go_iret dX11_boat_87 rfl vc rfl (Nat.le_refl _) (Nat.le_refl _)
    by_cases q4 : a2 = 4
    · refine go_tableIn (off := 71) 88 dX11_boat_17 (by rw [q4]; decide) (by rw [q4]; decide) (by rw [q4]; rfl) rfl ?_
      replace vc := vc.2.2.2.2.1 q4
      refine go_aload_n (x := 0) dX11_boat_88 rfl ?_
      refine go_getR (x := 29) dX11_boat_89 f11_49 sh0 (fun _ _ => rfl) (rf0_4 hR) ?_
      refine go_getR (x := lk) dX11_boat_92 f11_117 sh29 (fun _ _ => rfl) (rf29_2 hR) ?_
      refine go_getR (x := (lk + 5)) dX11_boat_95 f11_199 (slx hlk) (fun _ _ => rfl) (rl_s hR hlk (by decide)) ?_
      refine go_iload_n (x := a1) dX11_boat_98 rfl ?_
      refine go_iald' (v := (h1.1 (lk + 5) a1.toNatClampNeg)) dX11_boat_99 (sl5 hlk) vc.1 rfl ?_
      have vc := vc.2
      exact go_iret dX11_boat_100 rfl vc rfl (Nat.le_refl _) (Nat.le_refl _)
    replace vc := vc.2.2.2.2.2 q0 q1 q2 q3 q4
    refine go_tableOut 101 dX11_boat_17 ?_ rfl ?_
    · have e0 : ¬ (a2).toInt = 0 := lv_neT q0 rfl; have e1 : ¬ (a2).toInt = 1 := lv_neT q1 rfl; have e2 : ¬ (a2).toInt = 2 := lv_neT q2 rfl; have e3 : ¬ (a2).toInt = 3 := lv_neT q3 rfl; have e4 : ¬ (a2).toInt = 4 := lv_neT q4 rfl
      omega
    refine go_iconst (v := (-1)) dX11_boat_101 rfl ?_
    exact go_iret dX11_boat_102 rfl vc rfl (Nat.le_refl _) (Nat.le_refl _)
  · replace vc := vc.2 q
    refine go_iconst (v := (-1)) dX11_boat_14 rfl ?_
    exact go_iret dX11_boat_15 rfl vc rfl (Nat.le_refl _) (Nat.le_refl _)
set_option maxRecDepth 20000 in
theorem wX11_cell_0 {p : Program} {l : Launch} {e : Env} {s : State} {m : MethodId} {args : Array Value} {below : List Frame} {meth : Method} {c : Code} {G : gG} {d : Nat} {Q : Option Value → gH → Prop} {h : gH} {lk sp : Nat} {cd : Option Nat} {a1 : Int32} {a2 : Int32} (hR : h.2.2 = gRF lk sp cd) (hlk : lk = 30 ∨ lk = 67) (hsp : sp = 30 ∨ sp = 67)  (vc : gC l G d MX4_isCell [.ref lk, .int a1] h (rI fun v1 h1 => h1.2.2 = (h).2.2 ∧ ((¬ v1 = 0 → ((a2 = 0 → gC l G d MX4_isLand [.ref lk, .int a1] h1 (rI fun v2 h2 => h2.2.2 = (h1).2.2 ∧ ((v2 = 0 → gC l G d MX4_depthOf [.ref lk, .int a1] h2 (rI fun v3 h3 => h3.2.2 = (h2).2.2 ∧ Q (some (.int v3)) h3)) ∧ (¬ v2 = 0 → Q (some (.int (-1))) h2)))) ∧ (a2 = 1 → gC l G d MX4_wreckIn [.ref lk, .int a1] h1 (rI fun v4 h4 => h4.2.2 = (h1).2.2 ∧ Q (some (.int v4)) h4)) ∧ (a2 = 2 → gC l G d MX4_homeOf [.ref lk, .int a1] h1 (rI fun v5 h5 => h5.2.2 = (h1).2.2 ∧ Q (some (.int v5)) h5)) ∧ (a2 = 3 → gC l G d MX2_bitsIn [.ref 6, .int a1] h1 (rI fun v6 h6 => h6.2.2 = (h1).2.2 ∧ Q (some (.int v6)) h6)) ∧ (¬ a2 = 0 → ¬ a2 = 1 → ¬ a2 = 2 → ¬ a2 = 3 → Q (some (.int (-1))) h1))) ∧ (v1 = 0 → Q (some (.int (-1))) h1)))) : gg p l e s m args below meth c G (d + 1) MX11_cell Q 0 [some (.ref 0), some (.int a1), some (.int a2), none] [] h := by
  refine go_aload_n (x := 0) dX11_cell_0 rfl ?_
  refine go_getR (x := 29) dX11_cell_1 f11_49 sh0 (fun _ _ => rfl) (rf0_4 hR) ?_
  refine go_getR (x := lk) dX11_cell_4 f11_117 sh29 (fun _ _ => rfl) (rf29_2 hR) ?_
  refine go_astore_n dX11_cell_7 (Nat.le_of_ble_eq_true rfl) ?_
  show gg p l e s m args below meth c G (d + 1) MX11_cell Q 8 [some (.ref 0), some (.int a1), some (.int a2), some (.ref lk)] [] h
  refine go_aload_n (x := lk) dX11_cell_8 rfl ?_
  refine go_iload_n (x := a1) dX11_cell_9 rfl ?_
  refine gvI1 MX4_isCell dX11_cell_10 lX11_202 kX4_isCell vX4_isCell (slx hlk) (by decide) rfl (Nat.le_of_ble_eq_true rfl) vc ?_
  intro v1 h1 vc
  obtain ⟨hR1, vc⟩ := vc
  replace hR := hR1.trans hR
  refine go_if_ne 18 dX11_cell_13 rfl (fun q => ?_) (fun q => ?_)
  · replace vc := vc.1 q
    refine go_iload_n (x := a2) dX11_cell_18 rfl ?_
    by_cases q0 : a2 = 0
    · refine go_tableIn (off := 29) 48 dX11_cell_19 (by rw [q0]; decide) (by rw [q0]; decide) (by rw [q0]; rfl) rfl ?_
      replace vc := vc.1 q0
      refine go_aload_n (x := lk) dX11_cell_48 rfl ?_
      refine go_iload_n (x := a1) dX11_cell_49 rfl ?_
      refine gvI1 MX4_isLand dX11_cell_50 lX11_205 kX4_isLand vX4_isLand (slx hlk) (by decide) rfl (Nat.le_of_ble_eq_true rfl) vc ?_
      intro v2 h2 vc
      obtain ⟨hR2, vc⟩ := vc
      replace hR := hR2.trans hR
      refine go_if_eq 60 dX11_cell_53 rfl (fun q => ?_) (fun q => ?_)
      · replace vc := vc.1 q
        refine go_aload_n (x := lk) dX11_cell_60 rfl ?_
        refine go_iload_n (x := a1) dX11_cell_61 rfl ?_
        refine gvI1 MX4_depthOf dX11_cell_62 lX11_208 kX4_depthOf vX4_depthOf (slx hlk) (by decide) rfl (Nat.le_of_ble_eq_true rfl) vc ?_
        intro v3 h3 vc
        obtain ⟨hR3, vc⟩ := vc
        replace hR := hR3.trans hR
        exact go_iret dX11_cell_65 rfl vc rfl (Nat.le_refl _) (Nat.le_refl _)
      · replace vc := vc.2 q
        refine go_iconst (v := (-1)) dX11_cell_56 rfl ?_
        refine go_goto 65 dX11_cell_57 rfl ?_
        exact go_iret dX11_cell_65 rfl vc rfl (Nat.le_refl _) (Nat.le_refl _)
    by_cases q1 : a2 = 1
    · refine go_tableIn (off := 47) 66 dX11_cell_19 (by rw [q1]; decide) (by rw [q1]; decide) (by rw [q1]; rfl) rfl ?_
      replace vc := vc.2.1 q1
      refine go_aload_n (x := lk) dX11_cell_66 rfl ?_
      refine go_iload_n (x := a1) dX11_cell_67 rfl ?_
      refine gvI1 MX4_wreckIn dX11_cell_68 lX11_211 kX4_wreckIn vX4_wreckIn (slx hlk) (by decide) rfl (Nat.le_of_ble_eq_true rfl) vc ?_
      intro v4 h4 vc
      obtain ⟨hR4, vc⟩ := vc
      replace hR := hR4.trans hR
      exact go_iret dX11_cell_71 rfl vc rfl (Nat.le_refl _) (Nat.le_refl _)
    by_cases q2 : a2 = 2
    · refine go_tableIn (off := 53) 72 dX11_cell_19 (by rw [q2]; decide) (by rw [q2]; decide) (by rw [q2]; rfl) rfl ?_
      replace vc := vc.2.2.1 q2
      refine go_aload_n (x := lk) dX11_cell_72 rfl ?_
      refine go_iload_n (x := a1) dX11_cell_73 rfl ?_
      refine gvI1 MX4_homeOf dX11_cell_74 lX11_214 kX4_homeOf vX4_homeOf (slx hlk) (by decide) rfl (Nat.le_of_ble_eq_true rfl) vc ?_
      intro v5 h5 vc
      obtain ⟨hR5, vc⟩ := vc
      replace hR := hR5.trans hR
      exact go_iret dX11_cell_77 rfl vc rfl (Nat.le_refl _) (Nat.le_refl _)
    by_cases q3 : a2 = 3
    · refine go_tableIn (off := 59) 78 dX11_cell_19 (by rw [q3]; decide) (by rw [q3]; decide) (by rw [q3]; rfl) rfl ?_
      replace vc := vc.2.2.2.1 q3
      refine go_aload_n (x := 0) dX11_cell_78 rfl ?_
      refine go_getR (x := 6) dX11_cell_79 f11_37 sh0 (fun _ _ => rfl) (rf0_3 hR) ?_
      refine go_iload_n (x := a1) dX11_cell_82 rfl ?_
      refine gvI1 MX2_bitsIn dX11_cell_83 lX11_217 kX2_bitsIn vX2_bitsIn sh6 (by decide) rfl (Nat.le_of_ble_eq_true rfl) vc ?_
      intro v6 h6 vc
      obtain ⟨hR6, vc⟩ := vc
      replace hR := hR6.trans hR
      exact go_iret dX11_cell_86 rfl vc rfl (Nat.le_refl _) (Nat.le_refl _)
    replace vc := vc.2.2.2.2 q0 q1 q2 q3
    refine go_tableOut 87 dX11_cell_19 ?_ rfl ?_
    · have e0 : ¬ (a2).toInt = 0 := lv_neT q0 rfl; have e1 : ¬ (a2).toInt = 1 := lv_neT q1 rfl; have e2 : ¬ (a2).toInt = 2 := lv_neT q2 rfl; have e3 : ¬ (a2).toInt = 3 := lv_neT q3 rfl
      omega
    refine go_iconst (v := (-1)) dX11_cell_87 rfl ?_
    exact go_iret dX11_cell_88 rfl vc rfl (Nat.le_refl _) (Nat.le_refl _)
  · replace vc := vc.2 q
    refine go_iconst (v := (-1)) dX11_cell_16 rfl ?_
    exact go_iret dX11_cell_17 rfl vc rfl (Nat.le_refl _) (Nat.le_refl _)
set_option maxRecDepth 20000 in
theorem wX11_hand_0 {p : Program} {l : Launch} {e : Env} {s : State} {m : MethodId} {args : Array Value} {below : List Frame} {meth : Method} {c : Code} {G : gG} {d : Nat} {Q : Option Value → gH → Prop} {h : gH} {lk sp : Nat} {cd : Option Nat} {a1 : Int32} {a2 : Int32} (hR : h.2.2 = gRF lk sp cd) (hlk : lk = 30 ∨ lk = 67) (hsp : sp = 30 ∨ sp = 67)  (vc : gC l G d MX4_isHand [.ref lk, .int a1] h (rI fun v1 h1 => h1.2.2 = (h).2.2 ∧ ((¬ v1 = 0 → ((a2 = 0 → gC l G d MX4_skillOf [.ref lk, .int a1] h1 (rI fun v2 h2 => h2.2.2 = (h1).2.2 ∧ Q (some (.int v2)) h2)) ∧ (a2 = 1 → gC l G d MX2_boatOf [.ref 6, .int a1] h1 (rI fun v3 h3 => h3.2.2 = (h1).2.2 ∧ Q (some (.int v3)) h3)) ∧ (¬ a2 = 0 → ¬ a2 = 1 → Q (some (.int (-1))) h1))) ∧ (v1 = 0 → Q (some (.int (-1))) h1)))) : gg p l e s m args below meth c G (d + 1) MX11_hand Q 0 [some (.ref 0), some (.int a1), some (.int a2)] [] h := by
  refine go_aload_n (x := 0) dX11_hand_0 rfl ?_
  refine go_getR (x := 29) dX11_hand_1 f11_49 sh0 (fun _ _ => rfl) (rf0_4 hR) ?_
  refine go_getR (x := lk) dX11_hand_4 f11_117 sh29 (fun _ _ => rfl) (rf29_2 hR) ?_
  refine go_iload_n (x := a1) dX11_hand_7 rfl ?_
  refine gvI1 MX4_isHand dX11_hand_8 lX11_181 kX4_isHand vX4_isHand (slx hlk) (by decide) rfl (Nat.le_of_ble_eq_true rfl) vc ?_
  intro v1 h1 vc
  obtain ⟨hR1, vc⟩ := vc
  replace hR := hR1.trans hR
  refine go_if_ne 16 dX11_hand_11 rfl (fun q => ?_) (fun q => ?_)
  · replace vc := vc.1 q
    refine go_iload_n (x := a2) dX11_hand_16 rfl ?_
    by_cases q0 : a2 = 0
    · refine go_lookup (off := 27) 44 dX11_hand_17 (by decide) (by rw [q0]; rfl) rfl ?_
      replace vc := vc.1 q0
      refine go_aload_n (x := 0) dX11_hand_44 rfl ?_
      refine go_getR (x := 29) dX11_hand_45 f11_49 sh0 (fun _ _ => rfl) (rf0_4 hR) ?_
      refine go_getR (x := lk) dX11_hand_48 f11_117 sh29 (fun _ _ => rfl) (rf29_2 hR) ?_
      refine go_iload_n (x := a1) dX11_hand_51 rfl ?_
      refine gvI1 MX4_skillOf dX11_hand_52 lX11_220 kX4_skillOf vX4_skillOf (slx hlk) (by decide) rfl (Nat.le_of_ble_eq_true rfl) vc ?_
      intro v2 h2 vc
      obtain ⟨hR2, vc⟩ := vc
      replace hR := hR2.trans hR
      exact go_iret dX11_hand_55 rfl vc rfl (Nat.le_refl _) (Nat.le_refl _)
    by_cases q1 : a2 = 1
    · refine go_lookup (off := 39) 56 dX11_hand_17 (by decide) (by rw [q1]; rfl) rfl ?_
      replace vc := vc.2.1 q1
      refine go_aload_n (x := 0) dX11_hand_56 rfl ?_
      refine go_getR (x := 6) dX11_hand_57 f11_37 sh0 (fun _ _ => rfl) (rf0_3 hR) ?_
      refine go_iload_n (x := a1) dX11_hand_60 rfl ?_
      refine gvI1 MX2_boatOf dX11_hand_61 lX11_223 kX2_boatOf vX2_boatOf sh6 (by decide) rfl (Nat.le_of_ble_eq_true rfl) vc ?_
      intro v3 h3 vc
      obtain ⟨hR3, vc⟩ := vc
      replace hR := hR3.trans hR
      exact go_iret dX11_hand_64 rfl vc rfl (Nat.le_refl _) (Nat.le_refl _)
    replace vc := vc.2.2 q0 q1
    refine go_lookup 65 dX11_hand_17 (by decide) ((lv_osw q0 rfl).trans ((lv_osw q1 rfl).trans rfl)) rfl ?_
    refine go_iconst (v := (-1)) dX11_hand_65 rfl ?_
    exact go_iret dX11_hand_66 rfl vc rfl (Nat.le_refl _) (Nat.le_refl _)
  · replace vc := vc.2 q
    refine go_iconst (v := (-1)) dX11_hand_14 rfl ?_
    exact go_iret dX11_hand_15 rfl vc rfl (Nat.le_refl _) (Nat.le_refl _)
set_option maxRecDepth 20000 in
theorem wX11_likes_0 {p : Program} {l : Launch} {e : Env} {s : State} {m : MethodId} {args : Array Value} {below : List Frame} {meth : Method} {c : Code} {G : gG} {d : Nat} {Q : Option Value → gH → Prop} {h : gH} {lk sp : Nat} {cd : Option Nat} {a1 : Int32} {a2 : Int32} (hR : h.2.2 = gRF lk sp cd) (hlk : lk = 30 ∨ lk = 67) (hsp : sp = 30 ∨ sp = 67)  (vc : gC l G d MX4_isBoat [.ref lk, .int a1] h (rI fun v1 h1 => h1.2.2 = (h).2.2 ∧ ((v1 = 0 → Q (some (.int (-1))) h1) ∧ (¬ v1 = 0 → gC l G d MX4_isHand [.ref lk, .int a2] h1 (rI fun v2 h2 => h2.2.2 = (h1).2.2 ∧ ((¬ v2 = 0 → gC l G d MX4_likingOf [.ref lk, .int a1, .int a2] h2 (rI fun v3 h3 => h3.2.2 = (h2).2.2 ∧ Q (some (.int v3)) h3)) ∧ (v2 = 0 → Q (some (.int (-1))) h2))))))) : gg p l e s m args below meth c G (d + 1) MX11_likes Q 0 [some (.ref 0), some (.int a1), some (.int a2)] [] h := by
  refine go_aload_n (x := 0) dX11_likes_0 rfl ?_
  refine go_getR (x := 29) dX11_likes_1 f11_49 sh0 (fun _ _ => rfl) (rf0_4 hR) ?_
  refine go_getR (x := lk) dX11_likes_4 f11_117 sh29 (fun _ _ => rfl) (rf29_2 hR) ?_
  refine go_iload_n (x := a1) dX11_likes_7 rfl ?_
  refine gvI1 MX4_isBoat dX11_likes_8 lX11_170 kX4_isBoat vX4_isBoat (slx hlk) (by decide) rfl (Nat.le_of_ble_eq_true rfl) vc ?_
  intro v1 h1 vc
  obtain ⟨hR1, vc⟩ := vc
  replace hR := hR1.trans hR
  refine go_if_eq 28 dX11_likes_11 rfl (fun q => ?_) (fun q => ?_)
  · replace vc := vc.1 q
    refine go_iconst (v := (-1)) dX11_likes_28 rfl ?_
    exact go_iret dX11_likes_29 rfl vc rfl (Nat.le_refl _) (Nat.le_refl _)
  · replace vc := vc.2 q
    refine go_aload_n (x := 0) dX11_likes_14 rfl ?_
    refine go_getR (x := 29) dX11_likes_15 f11_49 sh0 (fun _ _ => rfl) (rf0_4 hR) ?_
    refine go_getR (x := lk) dX11_likes_18 f11_117 sh29 (fun _ _ => rfl) (rf29_2 hR) ?_
    refine go_iload_n (x := a2) dX11_likes_21 rfl ?_
    refine gvI1 MX4_isHand dX11_likes_22 lX11_181 kX4_isHand vX4_isHand (slx hlk) (by decide) rfl (Nat.le_of_ble_eq_true rfl) vc ?_
    intro v2 h2 vc
    obtain ⟨hR2, vc⟩ := vc
    replace hR := hR2.trans hR
    refine go_if_ne 30 dX11_likes_25 rfl (fun q => ?_) (fun q => ?_)
    · replace vc := vc.1 q
      refine go_aload_n (x := 0) dX11_likes_30 rfl ?_
      refine go_getR (x := 29) dX11_likes_31 f11_49 sh0 (fun _ _ => rfl) (rf0_4 hR) ?_
      refine go_getR (x := lk) dX11_likes_34 f11_117 sh29 (fun _ _ => rfl) (rf29_2 hR) ?_
      refine go_iload_n (x := a1) dX11_likes_37 rfl ?_
      refine go_iload_n (x := a2) dX11_likes_38 rfl ?_
      refine gvI2 MX4_likingOf dX11_likes_39 lX11_226 kX4_likingOf vX4_likingOf (slx hlk) (by decide) rfl (Nat.le_of_ble_eq_true rfl) vc ?_
      intro v3 h3 vc
      obtain ⟨hR3, vc⟩ := vc
      replace hR := hR3.trans hR
      exact go_iret dX11_likes_42 rfl vc rfl (Nat.le_refl _) (Nat.le_refl _)
    · replace vc := vc.2 q
      refine go_iconst (v := (-1)) dX11_likes_28 rfl ?_
      exact go_iret dX11_likes_29 rfl vc rfl (Nat.le_refl _) (Nat.le_refl _)
set_option maxRecDepth 20000 in
theorem wX11_sky_0 {p : Program} {l : Launch} {e : Env} {s : State} {m : MethodId} {args : Array Value} {below : List Frame} {meth : Method} {c : Code} {G : gG} {d : Nat} {Q : Option Value → gH → Prop} {h : gH} {lk sp : Nat} {cd : Option Nat} {a1 : Int32} (hR : h.2.2 = gRF lk sp cd) (hlk : lk = 30 ∨ lk = 67) (hsp : sp = 30 ∨ sp = 67)  (vc : ((a1 < 0 → Q (some (.int (-1))) h) ∧ (¬ a1 < 0 → ((a1 ≤ 999 → gC l G d MX4_skyAt [.ref lk, .int a1] h (rI fun v1 h1 => h1.2.2 = (h).2.2 ∧ Q (some (.int v1)) h1)) ∧ (¬ a1 ≤ 999 → Q (some (.int (-1))) h))))) : gg p l e s m args below meth c G (d + 1) MX11_sky Q 0 [some (.ref 0), some (.int a1)] [] h := by
  refine go_iload_n (x := a1) dX11_sky_0 rfl ?_
  refine go_if_lt 11 dX11_sky_1 rfl (fun q => ?_) (fun q => ?_)
  · replace vc := vc.1 q
    refine go_iconst (v := (-1)) dX11_sky_11 rfl ?_
    exact go_iret dX11_sky_12 rfl vc rfl (Nat.le_refl _) (Nat.le_refl _)
  · replace vc := vc.2 q
    refine go_iload_n (x := a1) dX11_sky_4 rfl ?_
    refine go_sipush (v := 999) dX11_sky_5 rfl ?_
    refine go_icmp_le 13 dX11_sky_8 rfl (fun q => ?_) (fun q => ?_)
    · replace vc := vc.1 q
      refine go_aload_n (x := 0) dX11_sky_13 rfl ?_
      refine go_getR (x := 29) dX11_sky_14 f11_49 sh0 (fun _ _ => rfl) (rf0_4 hR) ?_
      refine go_getR (x := lk) dX11_sky_17 f11_117 sh29 (fun _ _ => rfl) (rf29_2 hR) ?_
      refine go_iload_n (x := a1) dX11_sky_20 rfl ?_
      refine gvI1 MX4_skyAt dX11_sky_21 lX11_152 kX4_skyAt vX4_skyAt (slx hlk) (by decide) rfl (Nat.le_of_ble_eq_true rfl) vc ?_
      intro v1 h1 vc
      obtain ⟨hR1, vc⟩ := vc
      replace hR := hR1.trans hR
      exact go_iret dX11_sky_24 rfl vc rfl (Nat.le_refl _) (Nat.le_refl _)
    · replace vc := vc.2 q
      refine go_iconst (v := (-1)) dX11_sky_11 rfl ?_
      exact go_iret dX11_sky_12 rfl vc rfl (Nat.le_refl _) (Nat.le_refl _)
set_option maxRecDepth 20000 in
theorem wX11_kept_0 {p : Program} {l : Launch} {e : Env} {s : State} {m : MethodId} {args : Array Value} {below : List Frame} {meth : Method} {c : Code} {G : gG} {d : Nat} {Q : Option Value → gH → Prop} {h : gH} {lk sp : Nat} {cd : Option Nat} {a1 : Int32} {a2 : Int32} (hR : h.2.2 = gRF lk sp cd) (hlk : lk = 30 ∨ lk = 67) (hsp : sp = 30 ∨ sp = 67)  (vc : ((a1 < 0 → Q (some (.int (-1))) h) ∧ (¬ a1 < 0 → gC l G d MX2_tellable [.ref 6] h (rI fun v1 h1 => h1.2.2 = (h).2.2 ∧ ((a1 < v1 → gC l G d MX2_tell [.ref 6, .int a1, .int a2] h1 (rI fun v2 h2 => h2.2.2 = (h1).2.2 ∧ Q (some (.int v2)) h2)) ∧ (¬ a1 < v1 → Q (some (.int (-1))) h1)))))) : gg p l e s m args below meth c G (d + 1) MX11_kept Q 0 [some (.ref 0), some (.int a1), some (.int a2)] [] h := by
  refine go_iload_n (x := a1) dX11_kept_0 rfl ?_
  refine go_if_lt 15 dX11_kept_1 rfl (fun q => ?_) (fun q => ?_)
  · replace vc := vc.1 q
    refine go_iconst (v := (-1)) dX11_kept_15 rfl ?_
    exact go_iret dX11_kept_16 rfl vc rfl (Nat.le_refl _) (Nat.le_refl _)
  · replace vc := vc.2 q
    refine go_iload_n (x := a1) dX11_kept_4 rfl ?_
    refine go_aload_n (x := 0) dX11_kept_5 rfl ?_
    refine go_getR (x := 6) dX11_kept_6 f11_37 sh0 (fun _ _ => rfl) (rf0_3 hR) ?_
    refine gvI0 MX2_tellable dX11_kept_9 lX11_164 kX2_tellable vX2_tellable sh6 (by decide) rfl (Nat.le_of_ble_eq_true rfl) vc ?_
    intro v1 h1 vc
    obtain ⟨hR1, vc⟩ := vc
    replace hR := hR1.trans hR
    refine go_icmp_lt 17 dX11_kept_12 rfl (fun q => ?_) (fun q => ?_)
    · replace vc := vc.1 q
      refine go_aload_n (x := 0) dX11_kept_17 rfl ?_
      refine go_getR (x := 6) dX11_kept_18 f11_37 sh0 (fun _ _ => rfl) (rf0_3 hR) ?_
      refine go_iload_n (x := a1) dX11_kept_21 rfl ?_
      refine go_iload_n (x := a2) dX11_kept_22 rfl ?_
      refine gvI2 MX2_tell dX11_kept_23 lX11_229 kX2_tell vX2_tell sh6 (by decide) rfl (Nat.le_of_ble_eq_true rfl) vc ?_
      intro v2 h2 vc
      obtain ⟨hR2, vc⟩ := vc
      replace hR := hR2.trans hR
      exact go_iret dX11_kept_26 rfl vc rfl (Nat.le_refl _) (Nat.le_refl _)
    · replace vc := vc.2 q
      refine go_iconst (v := (-1)) dX11_kept_15 rfl ?_
      exact go_iret dX11_kept_16 rfl vc rfl (Nat.le_refl _) (Nat.le_refl _)
set_option maxRecDepth 20000 in
theorem wX11_dread_0 {p : Program} {l : Launch} {e : Env} {s : State} {m : MethodId} {args : Array Value} {below : List Frame} {meth : Method} {c : Code} {G : gG} {d : Nat} {Q : Option Value → gH → Prop} {h : gH} {lk sp : Nat} {cd : Option Nat} {a1 : Int32} {a2 : Int32} {a3 : Int32} (hR : h.2.2 = gRF lk sp cd) (hlk : lk = 30 ∨ lk = 67) (hsp : sp = 30 ∨ sp = 67)  (vc : gC l G d MX4_isBoat [.ref lk, .int a1] h (rI fun v1 h1 => h1.2.2 = (h).2.2 ∧ ((v1 = 0 → Q (some (.int (-1))) h1) ∧ (¬ v1 = 0 → gC l G d MX4_isWater [.ref lk, .int a2] h1 (rI fun v2 h2 => h2.2.2 = (h1).2.2 ∧ ((v2 = 0 → Q (some (.int (-1))) h2) ∧ (¬ v2 = 0 → ((¬ a3 = a1 → ((¬ a3 = (-1) → gC l G d MX4_isBoat [.ref lk, .int a3] h2 (rI fun v3 h3 => h3.2.2 = (h2).2.2 ∧ ((¬ v3 = 0 → gC l G d MX2_trustOf [.ref 6, .int a3] h3 (rI fun v4 h4 => h4.2.2 = (h3).2.2 ∧ gC l G d MX9_fearOf [.ref 29, .int a1, .int a2, .int v4] h4 (rI fun v5 h5 => h5.2.2 = (h4).2.2 ∧ Q (some (.int v5)) h5))) ∧ (v3 = 0 → Q (some (.int (-1))) h3)))) ∧ (a3 = (-1) → gC l G d MX9_fearOf [.ref 29, .int a1, .int a2, .int (-1)] h2 (rI fun v6 h6 => h6.2.2 = (h2).2.2 ∧ Q (some (.int v6)) h6)))) ∧ (a3 = a1 → Q (some (.int (-1))) h2))))))))) : gg p l e s m args below meth c G (d + 1) MX11_dread Q 0 [some (.ref 0), some (.int a1), some (.int a2), some (.int a3), none] [] h := by
  refine go_aload_n (x := 0) dX11_dread_0 rfl ?_
  refine go_getR (x := 29) dX11_dread_1 f11_49 sh0 (fun _ _ => rfl) (rf0_4 hR) ?_
  refine go_getR (x := lk) dX11_dread_4 f11_117 sh29 (fun _ _ => rfl) (rf29_2 hR) ?_
  refine go_astore dX11_dread_7 (Nat.le_of_ble_eq_true rfl) ?_
  show gg p l e s m args below meth c G (d + 1) MX11_dread Q 9 [some (.ref 0), some (.int a1), some (.int a2), some (.int a3), some (.ref lk)] [] h
  refine go_aload (x := lk) dX11_dread_9 rfl ?_
  refine go_iload_n (x := a1) dX11_dread_11 rfl ?_
  refine gvI1 MX4_isBoat dX11_dread_12 lX11_170 kX4_isBoat vX4_isBoat (slx hlk) (by decide) rfl (Nat.le_of_ble_eq_true rfl) vc ?_
  intro v1 h1 vc
  obtain ⟨hR1, vc⟩ := vc
  replace hR := hR1.trans hR
  refine go_if_eq 32 dX11_dread_15 rfl (fun q => ?_) (fun q => ?_)
  · replace vc := vc.1 q
    refine go_iconst (v := (-1)) dX11_dread_32 rfl ?_
    exact go_iret dX11_dread_33 rfl vc rfl (Nat.le_refl _) (Nat.le_refl _)
  · replace vc := vc.2 q
    refine go_aload (x := lk) dX11_dread_18 rfl ?_
    refine go_iload_n (x := a2) dX11_dread_20 rfl ?_
    refine gvI1 MX4_isWater dX11_dread_21 lX11_232 kX4_isWater vX4_isWater (slx hlk) (by decide) rfl (Nat.le_of_ble_eq_true rfl) vc ?_
    intro v2 h2 vc
    obtain ⟨hR2, vc⟩ := vc
    replace hR := hR2.trans hR
    refine go_if_eq 32 dX11_dread_24 rfl (fun q => ?_) (fun q => ?_)
    · replace vc := vc.1 q
      refine go_iconst (v := (-1)) dX11_dread_32 rfl ?_
      exact go_iret dX11_dread_33 rfl vc rfl (Nat.le_refl _) (Nat.le_refl _)
    · replace vc := vc.2 q
      refine go_iload_n (x := a3) dX11_dread_27 rfl ?_
      refine go_iload_n (x := a1) dX11_dread_28 rfl ?_
      refine go_icmp_ne 34 dX11_dread_29 rfl (fun q => ?_) (fun q => ?_)
      · replace vc := vc.1 q
        refine go_iload_n (x := a3) dX11_dread_34 rfl ?_
        refine go_iconst (v := (-1)) dX11_dread_35 rfl ?_
        refine go_icmp_ne 50 dX11_dread_36 rfl (fun q => ?_) (fun q => ?_)
        · replace vc := vc.1 q
          refine go_aload (x := lk) dX11_dread_50 rfl ?_
          refine go_iload_n (x := a3) dX11_dread_52 rfl ?_
          refine gvI1 MX4_isBoat dX11_dread_53 lX11_170 kX4_isBoat vX4_isBoat (slx hlk) (by decide) rfl (Nat.le_of_ble_eq_true rfl) vc ?_
          intro v3 h3 vc
          obtain ⟨hR3, vc⟩ := vc
          replace hR := hR3.trans hR
          refine go_if_ne 61 dX11_dread_56 rfl (fun q => ?_) (fun q => ?_)
          · replace vc := vc.1 q
            refine go_aload_n (x := 0) dX11_dread_61 rfl ?_
            refine go_getR (x := 29) dX11_dread_62 f11_49 sh0 (fun _ _ => rfl) (rf0_4 hR) ?_
            refine go_iload_n (x := a1) dX11_dread_65 rfl ?_
            refine go_iload_n (x := a2) dX11_dread_66 rfl ?_
            refine go_aload_n (x := 0) dX11_dread_67 rfl ?_
            refine go_getR (x := 6) dX11_dread_68 f11_37 sh0 (fun _ _ => rfl) (rf0_3 hR) ?_
            refine go_iload_n (x := a3) dX11_dread_71 rfl ?_
            refine gvI1 MX2_trustOf dX11_dread_72 lX11_190 kX2_trustOf vX2_trustOf sh6 (by decide) rfl (Nat.le_of_ble_eq_true rfl) vc ?_
            intro v4 h4 vc
            obtain ⟨hR4, vc⟩ := vc
            replace hR := hR4.trans hR
            refine gvI3 MX9_fearOf dX11_dread_75 lX11_235 kX9_fearOf vX9_fearOf sh29 (by decide) rfl (Nat.le_of_ble_eq_true rfl) vc ?_
            intro v5 h5 vc
            obtain ⟨hR5, vc⟩ := vc
            replace hR := hR5.trans hR
            exact go_iret dX11_dread_78 rfl vc rfl (Nat.le_refl _) (Nat.le_refl _)
          · replace vc := vc.2 q
            refine go_iconst (v := (-1)) dX11_dread_59 rfl ?_
            exact go_iret dX11_dread_60 rfl vc rfl (Nat.le_refl _) (Nat.le_refl _)
        · replace vc := vc.2 q
          refine go_aload_n (x := 0) dX11_dread_39 rfl ?_
          refine go_getR (x := 29) dX11_dread_40 f11_49 sh0 (fun _ _ => rfl) (rf0_4 hR) ?_
          refine go_iload_n (x := a1) dX11_dread_43 rfl ?_
          refine go_iload_n (x := a2) dX11_dread_44 rfl ?_
          refine go_iconst (v := (-1)) dX11_dread_45 rfl ?_
          refine gvI3 MX9_fearOf dX11_dread_46 lX11_235 kX9_fearOf vX9_fearOf sh29 (by decide) rfl (Nat.le_of_ble_eq_true rfl) vc ?_
          intro v6 h6 vc
          obtain ⟨hR6, vc⟩ := vc
          replace hR := hR6.trans hR
          exact go_iret dX11_dread_49 rfl vc rfl (Nat.le_refl _) (Nat.le_refl _)
      · replace vc := vc.2 q
        refine go_iconst (v := (-1)) dX11_dread_32 rfl ?_
        exact go_iret dX11_dread_33 rfl vc rfl (Nat.le_refl _) (Nat.le_refl _)
set_option maxRecDepth 20000 in
theorem wX11_route_0 {p : Program} {l : Launch} {e : Env} {s : State} {m : MethodId} {args : Array Value} {below : List Frame} {meth : Method} {c : Code} {G : gG} {d : Nat} {Q : Option Value → gH → Prop} {h : gH} {lk sp : Nat} {cd : Option Nat} {a1 : Int32} {a2 : Int32} {a3 : Int32} (hR : h.2.2 = gRF lk sp cd) (hlk : lk = 30 ∨ lk = 67) (hsp : sp = 30 ∨ sp = 67)  (vc : gC l G d MX4_isBoat [.ref lk, .int a1] h (rI fun v1 h1 => h1.2.2 = (h).2.2 ∧ ((v1 = 0 → Q (some (.int (-1))) h1) ∧ (¬ v1 = 0 → gC l G d MX4_isWater [.ref lk, .int a2] h1 (rI fun v2 h2 => h2.2.2 = (h1).2.2 ∧ ((v2 = 0 → Q (some (.int (-1))) h2) ∧ (¬ v2 = 0 → (((-1) ≤ a3 → gC l G d MX10_findRoute [.ref 49, .int a1, .int a2] h2 (rI fun v3 h3 => h3.2.2 = (h2).2.2 ∧ ((¬ a3 = (-1) → ((v3 ≤ a3 → Q (some (.int (-1))) h3) ∧ (¬ v3 ≤ a3 → ((48 ≤ a3 → Q (some (.int (-1))) h3) ∧ (¬ 48 ≤ a3 → (vp_in a3 48 ∧ Q (some (.int (h3.1 52 a3.toNatClampNeg))) h3)))))) ∧ (a3 = (-1) → Q (some (.int v3)) h3)))) ∧ (¬ (-1) ≤ a3 → Q (some (.int (-1))) h2))))))))) : gg p l e s m args below meth c G (d + 1) MX11_route Q 0 [some (.ref 0), some (.int a1), some (.int a2), some (.int a3), none] [] h := by
  refine go_aload_n (x := 0) dX11_route_0 rfl ?_
  refine go_getR (x := 29) dX11_route_1 f11_49 sh0 (fun _ _ => rfl) (rf0_4 hR) ?_
  refine go_getR (x := lk) dX11_route_4 f11_117 sh29 (fun _ _ => rfl) (rf29_2 hR) ?_
  refine go_iload_n (x := a1) dX11_route_7 rfl ?_
  refine gvI1 MX4_isBoat dX11_route_8 lX11_170 kX4_isBoat vX4_isBoat (slx hlk) (by decide) rfl (Nat.le_of_ble_eq_true rfl) vc ?_
  intro v1 h1 vc
  obtain ⟨hR1, vc⟩ := vc
  replace hR := hR1.trans hR
  refine go_if_eq 33 dX11_route_11 rfl (fun q => ?_) (fun q => ?_)
  · replace vc := vc.1 q
    refine go_iconst (v := (-1)) dX11_route_33 rfl ?_
    exact go_iret dX11_route_34 rfl vc rfl (Nat.le_refl _) (Nat.le_refl _)
  · replace vc := vc.2 q
    refine go_aload_n (x := 0) dX11_route_14 rfl ?_
    refine go_getR (x := 29) dX11_route_15 f11_49 sh0 (fun _ _ => rfl) (rf0_4 hR) ?_
    refine go_getR (x := lk) dX11_route_18 f11_117 sh29 (fun _ _ => rfl) (rf29_2 hR) ?_
    refine go_iload_n (x := a2) dX11_route_21 rfl ?_
    refine gvI1 MX4_isWater dX11_route_22 lX11_232 kX4_isWater vX4_isWater (slx hlk) (by decide) rfl (Nat.le_of_ble_eq_true rfl) vc ?_
    intro v2 h2 vc
    obtain ⟨hR2, vc⟩ := vc
    replace hR := hR2.trans hR
    refine go_if_eq 33 dX11_route_25 rfl (fun q => ?_) (fun q => ?_)
    · replace vc := vc.1 q
      refine go_iconst (v := (-1)) dX11_route_33 rfl ?_
      exact go_iret dX11_route_34 rfl vc rfl (Nat.le_refl _) (Nat.le_refl _)
    · replace vc := vc.2 q
      refine go_iload_n (x := a3) dX11_route_28 rfl ?_
      refine go_iconst (v := (-1)) dX11_route_29 rfl ?_
      refine go_icmp_ge 35 dX11_route_30 rfl (fun q => ?_) (fun q => ?_)
      · replace vc := vc.1 q
        refine go_aload_n (x := 0) dX11_route_35 rfl ?_
        refine go_getR (x := 49) dX11_route_36 f11_58 sh0 (fun _ _ => rfl) (rf0_5 hR) ?_
        refine go_iload_n (x := a1) dX11_route_39 rfl ?_
        refine go_iload_n (x := a2) dX11_route_40 rfl ?_
        refine gvI2 MX10_findRoute dX11_route_41 lX11_239 kX10_findRoute vX10_findRoute sh49 (by decide) rfl (Nat.le_of_ble_eq_true rfl) vc ?_
        intro v3 h3 vc
        obtain ⟨hR3, vc⟩ := vc
        replace hR := hR3.trans hR
        refine go_istore dX11_route_44 (Nat.le_of_ble_eq_true rfl) ?_
        show gg p l e s m args below meth c G (d + 1) MX11_route Q 46 [some (.ref 0), some (.int a1), some (.int a2), some (.int a3), some (.int v3)] [] h3
        refine go_iload_n (x := a3) dX11_route_46 rfl ?_
        refine go_iconst (v := (-1)) dX11_route_47 rfl ?_
        refine go_icmp_ne 54 dX11_route_48 rfl (fun q => ?_) (fun q => ?_)
        · replace vc := vc.1 q
          refine go_iload_n (x := a3) dX11_route_54 rfl ?_
          refine go_iload (x := v3) dX11_route_55 rfl ?_
          refine go_icmp_ge 78 dX11_route_57 rfl (fun q => ?_) (fun q => ?_)
          · replace vc := vc.1 q
            refine go_iconst (v := (-1)) dX11_route_78 rfl ?_
            exact go_iret dX11_route_79 rfl vc rfl (Nat.le_refl _) (Nat.le_refl _)
          · replace vc := vc.2 q
            refine go_iload_n (x := a3) dX11_route_60 rfl ?_
            refine go_bipush (v := 48) dX11_route_61 rfl ?_
            refine go_icmp_ge 78 dX11_route_63 rfl (fun q => ?_) (fun q => ?_)
            · replace vc := vc.1 q
              refine go_iconst (v := (-1)) dX11_route_78 rfl ?_
              exact go_iret dX11_route_79 rfl vc rfl (Nat.le_refl _) (Nat.le_refl _)
            · replace vc := vc.2 q
              refine go_aload_n (x := 0) dX11_route_66 rfl ?_
              refine go_getR (x := 49) dX11_route_67 f11_58 sh0 (fun _ _ => rfl) (rf0_5 hR) ?_
              refine go_getR (x := 52) dX11_route_70 f11_242 sh49 (fun _ _ => rfl) (rf49_3 hR) ?_
              refine go_iload_n (x := a3) dX11_route_73 rfl ?_
              refine go_iald' (v := (h3.1 52 a3.toNatClampNeg)) dX11_route_74 sh52 vc.1 rfl ?_
              have vc := vc.2
              refine go_goto 79 dX11_route_75 rfl ?_
              exact go_iret dX11_route_79 rfl vc rfl (Nat.le_refl _) (Nat.le_refl _)
        · replace vc := vc.2 q
          refine go_iload (x := v3) dX11_route_51 rfl ?_
          exact go_iret dX11_route_53 rfl vc rfl (Nat.le_refl _) (Nat.le_refl _)
      · replace vc := vc.2 q
        refine go_iconst (v := (-1)) dX11_route_33 rfl ?_
        exact go_iret dX11_route_34 rfl vc rfl (Nat.le_refl _) (Nat.le_refl _)
set_option maxRecDepth 20000 in
theorem wX11_gentle_0 {p : Program} {l : Launch} {e : Env} {s : State} {m : MethodId} {args : Array Value} {below : List Frame} {meth : Method} {c : Code} {G : gG} {d : Nat} {Q : Option Value → gH → Prop} {h : gH} {lk sp : Nat} {cd : Option Nat} {a1 : Int32} {a2 : Int32} {a3 : Int32} (hR : h.2.2 = gRF lk sp cd) (hlk : lk = 30 ∨ lk = 67) (hsp : sp = 30 ∨ sp = 67)  (vc : gC l G d MX4_isBoat [.ref lk, .int a1] h (rI fun v1 h1 => h1.2.2 = (h).2.2 ∧ ((v1 = 0 → Q (some (.int (-1))) h1) ∧ (¬ v1 = 0 → gC l G d MX4_isWater [.ref lk, .int a2] h1 (rI fun v2 h2 => h2.2.2 = (h1).2.2 ∧ ((¬ v2 = 0 → gC l G d MX10_gentlest [.ref 49, .int a1, .int a2] h2 (rI fun v3 h3 => h3.2.2 = (h2).2.2 ∧ ((¬ v3 = (-1) → ((a3 = 0 → Q (some (.int v3)) h3) ∧ (a3 = 1 → gC l G d MX9_coinsUpTo [.ref 29, .int a1, .int v3] h3 (rI fun v4 h4 => h4.2.2 = (h3).2.2 ∧ Q (some (.int v4)) h4)) ∧ (¬ a3 = 0 → ¬ a3 = 1 → Q (some (.int (-1))) h3))) ∧ (v3 = (-1) → Q (some (.int (-1))) h3)))) ∧ (v2 = 0 → Q (some (.int (-1))) h2))))))) : gg p l e s m args below meth c G (d + 1) MX11_gentle Q 0 [some (.ref 0), some (.int a1), some (.int a2), some (.int a3), none] [] h := by
  refine go_aload_n (x := 0) dX11_gentle_0 rfl ?_
  refine go_getR (x := 29) dX11_gentle_1 f11_49 sh0 (fun _ _ => rfl) (rf0_4 hR) ?_
  refine go_getR (x := lk) dX11_gentle_4 f11_117 sh29 (fun _ _ => rfl) (rf29_2 hR) ?_
  refine go_iload_n (x := a1) dX11_gentle_7 rfl ?_
  refine gvI1 MX4_isBoat dX11_gentle_8 lX11_170 kX4_isBoat vX4_isBoat (slx hlk) (by decide) rfl (Nat.le_of_ble_eq_true rfl) vc ?_
  intro v1 h1 vc
  obtain ⟨hR1, vc⟩ := vc
  replace hR := hR1.trans hR
  refine go_if_eq 28 dX11_gentle_11 rfl (fun q => ?_) (fun q => ?_)
  · replace vc := vc.1 q
    refine go_iconst (v := (-1)) dX11_gentle_28 rfl ?_
    exact go_iret dX11_gentle_29 rfl vc rfl (Nat.le_refl _) (Nat.le_refl _)
  · replace vc := vc.2 q
    refine go_aload_n (x := 0) dX11_gentle_14 rfl ?_
    refine go_getR (x := 29) dX11_gentle_15 f11_49 sh0 (fun _ _ => rfl) (rf0_4 hR) ?_
    refine go_getR (x := lk) dX11_gentle_18 f11_117 sh29 (fun _ _ => rfl) (rf29_2 hR) ?_
    refine go_iload_n (x := a2) dX11_gentle_21 rfl ?_
    refine gvI1 MX4_isWater dX11_gentle_22 lX11_232 kX4_isWater vX4_isWater (slx hlk) (by decide) rfl (Nat.le_of_ble_eq_true rfl) vc ?_
    intro v2 h2 vc
    obtain ⟨hR2, vc⟩ := vc
    replace hR := hR2.trans hR
    refine go_if_ne 30 dX11_gentle_25 rfl (fun q => ?_) (fun q => ?_)
    · replace vc := vc.1 q
      refine go_aload_n (x := 0) dX11_gentle_30 rfl ?_
      refine go_getR (x := 49) dX11_gentle_31 f11_58 sh0 (fun _ _ => rfl) (rf0_5 hR) ?_
      refine go_iload_n (x := a1) dX11_gentle_34 rfl ?_
      refine go_iload_n (x := a2) dX11_gentle_35 rfl ?_
      refine gvI2 MX10_gentlest dX11_gentle_36 lX11_245 kX10_gentlest vX10_gentlest sh49 (by decide) rfl (Nat.le_of_ble_eq_true rfl) vc ?_
      intro v3 h3 vc
      obtain ⟨hR3, vc⟩ := vc
      replace hR := hR3.trans hR
      refine go_istore dX11_gentle_39 (Nat.le_of_ble_eq_true rfl) ?_
      show gg p l e s m args below meth c G (d + 1) MX11_gentle Q 41 [some (.ref 0), some (.int a1), some (.int a2), some (.int a3), some (.int v3)] [] h3
      refine go_iload (x := v3) dX11_gentle_41 rfl ?_
      refine go_iconst (v := (-1)) dX11_gentle_43 rfl ?_
      refine go_icmp_ne 49 dX11_gentle_44 rfl (fun q => ?_) (fun q => ?_)
      · replace vc := vc.1 q
        refine go_iload_n (x := a3) dX11_gentle_49 rfl ?_
        by_cases q0 : a3 = 0
        · refine go_lookup (off := 26) 76 dX11_gentle_50 (by decide) (by rw [q0]; rfl) rfl ?_
          replace vc := vc.1 q0
          refine go_iload (x := v3) dX11_gentle_76 rfl ?_
          exact go_iret dX11_gentle_78 rfl vc rfl (Nat.le_refl _) (Nat.le_refl _)
        by_cases q1 : a3 = 1
        · refine go_lookup (off := 29) 79 dX11_gentle_50 (by decide) (by rw [q1]; rfl) rfl ?_
          replace vc := vc.2.1 q1
          refine go_aload_n (x := 0) dX11_gentle_79 rfl ?_
          refine go_getR (x := 29) dX11_gentle_80 f11_49 sh0 (fun _ _ => rfl) (rf0_4 hR) ?_
          refine go_iload_n (x := a1) dX11_gentle_83 rfl ?_
          refine go_iload (x := v3) dX11_gentle_84 rfl ?_
          refine gvI2 MX9_coinsUpTo dX11_gentle_86 lX11_248 kX9_coinsUpTo vX9_coinsUpTo sh29 (by decide) rfl (Nat.le_of_ble_eq_true rfl) vc ?_
          intro v4 h4 vc
          obtain ⟨hR4, vc⟩ := vc
          replace hR := hR4.trans hR
          exact go_iret dX11_gentle_89 rfl vc rfl (Nat.le_refl _) (Nat.le_refl _)
        replace vc := vc.2.2 q0 q1
        refine go_lookup 90 dX11_gentle_50 (by decide) ((lv_osw q0 rfl).trans ((lv_osw q1 rfl).trans rfl)) rfl ?_
        refine go_iconst (v := (-1)) dX11_gentle_90 rfl ?_
        exact go_iret dX11_gentle_91 rfl vc rfl (Nat.le_refl _) (Nat.le_refl _)
      · replace vc := vc.2 q
        refine go_iconst (v := (-1)) dX11_gentle_47 rfl ?_
        exact go_iret dX11_gentle_48 rfl vc rfl (Nat.le_refl _) (Nat.le_refl _)
    · replace vc := vc.2 q
      refine go_iconst (v := (-1)) dX11_gentle_28 rfl ?_
      exact go_iret dX11_gentle_29 rfl vc rfl (Nat.le_refl _) (Nat.le_refl _)
set_option maxRecDepth 20000 in
theorem wX11_runs_0 {p : Program} {l : Launch} {e : Env} {s : State} {m : MethodId} {args : Array Value} {below : List Frame} {meth : Method} {c : Code} {G : gG} {d : Nat} {Q : Option Value → gH → Prop} {h : gH} {lk sp : Nat} {cd : Option Nat} {a1 : Int32} {a2 : Int32} (hR : h.2.2 = gRF lk sp cd) (hlk : lk = 30 ∨ lk = 67) (hsp : sp = 30 ∨ sp = 67)  (vc : gC l G d MX4_isBoat [.ref lk, .int a1] h (rI fun v1 h1 => h1.2.2 = (h).2.2 ∧ ((¬ v1 = 0 → gC l G d MX10_runAway [.ref 49, .int a1] h1 (rI fun v2 h2 => h2.2.2 = (h1).2.2 ∧ ((a2 = 0 → Q (some (.int (h2.1 49 4))) h2) ∧ (a2 = 1 → Q (some (.int v2)) h2) ∧ (¬ a2 = 0 → ¬ a2 = 1 → Q (some (.int (-1))) h2)))) ∧ (v1 = 0 → Q (some (.int (-1))) h1)))) : gg p l e s m args below meth c G (d + 1) MX11_runs Q 0 [some (.ref 0), some (.int a1), some (.int a2), none] [] h := by
  refine go_aload_n (x := 0) dX11_runs_0 rfl ?_
  refine go_getR (x := 29) dX11_runs_1 f11_49 sh0 (fun _ _ => rfl) (rf0_4 hR) ?_
  refine go_getR (x := lk) dX11_runs_4 f11_117 sh29 (fun _ _ => rfl) (rf29_2 hR) ?_
  refine go_iload_n (x := a1) dX11_runs_7 rfl ?_
  refine gvI1 MX4_isBoat dX11_runs_8 lX11_170 kX4_isBoat vX4_isBoat (slx hlk) (by decide) rfl (Nat.le_of_ble_eq_true rfl) vc ?_
  intro v1 h1 vc
  obtain ⟨hR1, vc⟩ := vc
  replace hR := hR1.trans hR
  refine go_if_ne 16 dX11_runs_11 rfl (fun q => ?_) (fun q => ?_)
  · replace vc := vc.1 q
    refine go_aload_n (x := 0) dX11_runs_16 rfl ?_
    refine go_getR (x := 49) dX11_runs_17 f11_58 sh0 (fun _ _ => rfl) (rf0_5 hR) ?_
    refine go_iload_n (x := a1) dX11_runs_20 rfl ?_
    refine gvI1 MX10_runAway dX11_runs_21 lX11_251 kX10_runAway vX10_runAway sh49 (by decide) rfl (Nat.le_of_ble_eq_true rfl) vc ?_
    intro v2 h2 vc
    obtain ⟨hR2, vc⟩ := vc
    replace hR := hR2.trans hR
    refine go_istore_n dX11_runs_24 (Nat.le_of_ble_eq_true rfl) ?_
    show gg p l e s m args below meth c G (d + 1) MX11_runs Q 25 [some (.ref 0), some (.int a1), some (.int a2), some (.int v2)] [] h2
    refine go_iload_n (x := a2) dX11_runs_25 rfl ?_
    by_cases q0 : a2 = 0
    · refine go_lookup (off := 26) 52 dX11_runs_26 (by decide) (by rw [q0]; rfl) rfl ?_
      replace vc := vc.1 q0
      refine go_aload_n (x := 0) dX11_runs_52 rfl ?_
      refine go_getR (x := 49) dX11_runs_53 f11_58 sh0 (fun _ _ => rfl) (rf0_5 hR) ?_
      refine go_getI' (v := (h2.1 49 4)) dX11_runs_56 f11_254 sh49 (fun _ _ => rfl) rfl ?_
      exact go_iret dX11_runs_59 rfl vc rfl (Nat.le_refl _) (Nat.le_refl _)
    by_cases q1 : a2 = 1
    · refine go_lookup (off := 34) 60 dX11_runs_26 (by decide) (by rw [q1]; rfl) rfl ?_
      replace vc := vc.2.1 q1
      refine go_iload_n (x := v2) dX11_runs_60 rfl ?_
      exact go_iret dX11_runs_61 rfl vc rfl (Nat.le_refl _) (Nat.le_refl _)
    replace vc := vc.2.2 q0 q1
    refine go_lookup 62 dX11_runs_26 (by decide) ((lv_osw q0 rfl).trans ((lv_osw q1 rfl).trans rfl)) rfl ?_
    refine go_iconst (v := (-1)) dX11_runs_62 rfl ?_
    exact go_iret dX11_runs_63 rfl vc rfl (Nat.le_refl _) (Nat.le_refl _)
  · replace vc := vc.2 q
    refine go_iconst (v := (-1)) dX11_runs_14 rfl ?_
    exact go_iret dX11_runs_15 rfl vc rfl (Nat.le_refl _) (Nat.le_refl _)
set_option maxRecDepth 20000 in
theorem wX11_order_0 {p : Program} {l : Launch} {e : Env} {s : State} {m : MethodId} {args : Array Value} {below : List Frame} {meth : Method} {c : Code} {G : gG} {d : Nat} {Q : Option Value → gH → Prop} {h : gH} {lk sp : Nat} {cd : Option Nat} {a1 : Int32} {a2 : Int32} {a3 : Int32} (hR : h.2.2 = gRF lk sp cd) (hlk : lk = 30 ∨ lk = 67) (hsp : sp = 30 ∨ sp = 67)  (vc : gC l G d MX1_canTry [.ref 53, .int a1, .int a2] h (rI fun v1 h1 => h1.2.2 = (h).2.2 ∧ ((v1 = 0 → Q (some (.int (-1))) h1) ∧ (¬ v1 = 0 → (((-1) ≤ a3 → gC l G d MX1_sort [.ref 53, .int a1, .int a2] h1 (rI fun v2 h2 => h2.2.2 = (h1).2.2 ∧ ((¬ a3 = (-1) → gC l G d MJ6_bitCount_0f7a4 [.int a1] h2 (rI fun v3 h3 => h3.2.2 = (h2).2.2 ∧ ((v3 ≤ a3 → Q (some (.int (-1))) h3) ∧ (¬ v3 ≤ a3 → ((6 ≤ a3 → Q (some (.int (-1))) h3) ∧ (¬ 6 ≤ a3 → (vp_in a3 6 ∧ Q (some (.int (h3.1 55 a3.toNatClampNeg))) h3))))))) ∧ (a3 = (-1) → Q (some (.int v2)) h2)))) ∧ (¬ (-1) ≤ a3 → Q (some (.int (-1))) h1)))))) : gg p l e s m args below meth c G (d + 1) MX11_order Q 0 [some (.ref 0), some (.int a1), some (.int a2), some (.int a3), none] [] h := by
  refine go_aload_n (x := 0) dX11_order_0 rfl ?_
  refine go_getR (x := 53) dX11_order_1 f11_65 sh0 (fun _ _ => rfl) (rf0_6 hR) ?_
  refine go_iload_n (x := a1) dX11_order_4 rfl ?_
  refine go_iload_n (x := a2) dX11_order_5 rfl ?_
  refine gvI2 MX1_canTry dX11_order_6 lX11_257 kX1_canTry vX1_canTry sh53 (by decide) rfl (Nat.le_of_ble_eq_true rfl) vc ?_
  intro v1 h1 vc
  obtain ⟨hR1, vc⟩ := vc
  replace hR := hR1.trans hR
  refine go_if_eq 17 dX11_order_9 rfl (fun q => ?_) (fun q => ?_)
  · replace vc := vc.1 q
    refine go_iconst (v := (-1)) dX11_order_17 rfl ?_
    exact go_iret dX11_order_18 rfl vc rfl (Nat.le_refl _) (Nat.le_refl _)
  · replace vc := vc.2 q
    refine go_iload_n (x := a3) dX11_order_12 rfl ?_
    refine go_iconst (v := (-1)) dX11_order_13 rfl ?_
    refine go_icmp_ge 19 dX11_order_14 rfl (fun q => ?_) (fun q => ?_)
    · replace vc := vc.1 q
      refine go_aload_n (x := 0) dX11_order_19 rfl ?_
      refine go_getR (x := 53) dX11_order_20 f11_65 sh0 (fun _ _ => rfl) (rf0_6 hR) ?_
      refine go_iload_n (x := a1) dX11_order_23 rfl ?_
      refine go_iload_n (x := a2) dX11_order_24 rfl ?_
      refine gvI2 MX1_sort dX11_order_25 lX11_261 kX1_sort vX1_sort sh53 (by decide) rfl (Nat.le_of_ble_eq_true rfl) vc ?_
      intro v2 h2 vc
      obtain ⟨hR2, vc⟩ := vc
      replace hR := hR2.trans hR
      refine go_istore dX11_order_28 (Nat.le_of_ble_eq_true rfl) ?_
      show gg p l e s m args below meth c G (d + 1) MX11_order Q 30 [some (.ref 0), some (.int a1), some (.int a2), some (.int a3), some (.int v2)] [] h2
      refine go_iload_n (x := a3) dX11_order_30 rfl ?_
      refine go_iconst (v := (-1)) dX11_order_31 rfl ?_
      refine go_icmp_ne 38 dX11_order_32 rfl (fun q => ?_) (fun q => ?_)
      · replace vc := vc.1 q
        refine go_iload_n (x := a3) dX11_order_38 rfl ?_
        refine go_iload_n (x := a1) dX11_order_39 rfl ?_
        refine gsI1 MJ6_bitCount_0f7a4 dX11_order_40 lX11_264 kJ6_bitCount_0f7a4 sJ6_bitCount_0f7a4 (Nat.le_of_ble_eq_true rfl) vc ?_
        intro v3 h3 vc
        obtain ⟨hR3, vc⟩ := vc
        replace hR := hR3.trans hR
        refine go_icmp_ge 64 dX11_order_43 rfl (fun q => ?_) (fun q => ?_)
        · replace vc := vc.1 q
          refine go_iconst (v := (-1)) dX11_order_64 rfl ?_
          exact go_iret dX11_order_65 rfl vc rfl (Nat.le_refl _) (Nat.le_refl _)
        · replace vc := vc.2 q
          refine go_iload_n (x := a3) dX11_order_46 rfl ?_
          refine go_bipush (v := 6) dX11_order_47 rfl ?_
          refine go_icmp_ge 64 dX11_order_49 rfl (fun q => ?_) (fun q => ?_)
          · replace vc := vc.1 q
            refine go_iconst (v := (-1)) dX11_order_64 rfl ?_
            exact go_iret dX11_order_65 rfl vc rfl (Nat.le_refl _) (Nat.le_refl _)
          · replace vc := vc.2 q
            refine go_aload_n (x := 0) dX11_order_52 rfl ?_
            refine go_getR (x := 53) dX11_order_53 f11_65 sh0 (fun _ _ => rfl) (rf0_6 hR) ?_
            refine go_getR (x := 55) dX11_order_56 f11_269 sh53 (fun _ _ => rfl) (rf53_2 hR) ?_
            refine go_iload_n (x := a3) dX11_order_59 rfl ?_
            refine go_iald' (v := (h3.1 55 a3.toNatClampNeg)) dX11_order_60 sh55 vc.1 rfl ?_
            have vc := vc.2
            refine go_goto 65 dX11_order_61 rfl ?_
            exact go_iret dX11_order_65 rfl vc rfl (Nat.le_refl _) (Nat.le_refl _)
      · replace vc := vc.2 q
        refine go_iload (x := v2) dX11_order_35 rfl ?_
        exact go_iret dX11_order_37 rfl vc rfl (Nat.le_refl _) (Nat.le_refl _)
    · replace vc := vc.2 q
      refine go_iconst (v := (-1)) dX11_order_17 rfl ?_
      exact go_iret dX11_order_18 rfl vc rfl (Nat.le_refl _) (Nat.le_refl _)
set_option maxRecDepth 20000 in
theorem wX11_lead_0 {p : Program} {l : Launch} {e : Env} {s : State} {m : MethodId} {args : Array Value} {below : List Frame} {meth : Method} {c : Code} {G : gG} {d : Nat} {Q : Option Value → gH → Prop} {h : gH} {lk sp : Nat} {cd : Option Nat} {a1 : Int32} {a2 : Int32} {a3 : Int32} (hR : h.2.2 = gRF lk sp cd) (hlk : lk = 30 ∨ lk = 67) (hsp : sp = 30 ∨ sp = 67)  (vc : gC l G d MX1_canTry [.ref 53, .int a1, .int a2] h (rI fun v1 h1 => h1.2.2 = (h).2.2 ∧ ((¬ v1 = 0 → gC l G d MX1_findLeader [.ref 53, .int a1, .int a2] h1 (rI fun v2 h2 => h2.2.2 = (h1).2.2 ∧ ((¬ v2 = (-1) → ((a3 = 0 → Q (some (.int v2)) h2) ∧ (a3 = 1 → Q (some (.int (h2.1 53 3))) h2) ∧ (¬ a3 = 0 → ¬ a3 = 1 → Q (some (.int (-1))) h2))) ∧ (v2 = (-1) → Q (some (.int (-1))) h2)))) ∧ (v1 = 0 → Q (some (.int (-1))) h1)))) : gg p l e s m args below meth c G (d + 1) MX11_lead Q 0 [some (.ref 0), some (.int a1), some (.int a2), some (.int a3), none] [] h := by
  refine go_aload_n (x := 0) dX11_lead_0 rfl ?_
  refine go_getR (x := 53) dX11_lead_1 f11_65 sh0 (fun _ _ => rfl) (rf0_6 hR) ?_
  refine go_iload_n (x := a1) dX11_lead_4 rfl ?_
  refine go_iload_n (x := a2) dX11_lead_5 rfl ?_
  refine gvI2 MX1_canTry dX11_lead_6 lX11_257 kX1_canTry vX1_canTry sh53 (by decide) rfl (Nat.le_of_ble_eq_true rfl) vc ?_
  intro v1 h1 vc
  obtain ⟨hR1, vc⟩ := vc
  replace hR := hR1.trans hR
  refine go_if_ne 14 dX11_lead_9 rfl (fun q => ?_) (fun q => ?_)
  · replace vc := vc.1 q
    refine go_aload_n (x := 0) dX11_lead_14 rfl ?_
    refine go_getR (x := 53) dX11_lead_15 f11_65 sh0 (fun _ _ => rfl) (rf0_6 hR) ?_
    refine go_iload_n (x := a1) dX11_lead_18 rfl ?_
    refine go_iload_n (x := a2) dX11_lead_19 rfl ?_
    refine gvI2 MX1_findLeader dX11_lead_20 lX11_272 kX1_findLeader vX1_findLeader sh53 (by decide) rfl (Nat.le_of_ble_eq_true rfl) vc ?_
    intro v2 h2 vc
    obtain ⟨hR2, vc⟩ := vc
    replace hR := hR2.trans hR
    refine go_istore dX11_lead_23 (Nat.le_of_ble_eq_true rfl) ?_
    show gg p l e s m args below meth c G (d + 1) MX11_lead Q 25 [some (.ref 0), some (.int a1), some (.int a2), some (.int a3), some (.int v2)] [] h2
    refine go_iload (x := v2) dX11_lead_25 rfl ?_
    refine go_iconst (v := (-1)) dX11_lead_27 rfl ?_
    refine go_icmp_ne 33 dX11_lead_28 rfl (fun q => ?_) (fun q => ?_)
    · replace vc := vc.1 q
      refine go_iload_n (x := a3) dX11_lead_33 rfl ?_
      by_cases q0 : a3 = 0
      · refine go_lookup (off := 26) 60 dX11_lead_34 (by decide) (by rw [q0]; rfl) rfl ?_
        replace vc := vc.1 q0
        refine go_iload (x := v2) dX11_lead_60 rfl ?_
        exact go_iret dX11_lead_62 rfl vc rfl (Nat.le_refl _) (Nat.le_refl _)
      by_cases q1 : a3 = 1
      · refine go_lookup (off := 29) 63 dX11_lead_34 (by decide) (by rw [q1]; rfl) rfl ?_
        replace vc := vc.2.1 q1
        refine go_aload_n (x := 0) dX11_lead_63 rfl ?_
        refine go_getR (x := 53) dX11_lead_64 f11_65 sh0 (fun _ _ => rfl) (rf0_6 hR) ?_
        refine go_getI' (v := (h2.1 53 3)) dX11_lead_67 f11_275 sh53 (fun _ _ => rfl) rfl ?_
        exact go_iret dX11_lead_70 rfl vc rfl (Nat.le_refl _) (Nat.le_refl _)
      replace vc := vc.2.2 q0 q1
      refine go_lookup 71 dX11_lead_34 (by decide) ((lv_osw q0 rfl).trans ((lv_osw q1 rfl).trans rfl)) rfl ?_
      refine go_iconst (v := (-1)) dX11_lead_71 rfl ?_
      exact go_iret dX11_lead_72 rfl vc rfl (Nat.le_refl _) (Nat.le_refl _)
    · replace vc := vc.2 q
      refine go_iconst (v := (-1)) dX11_lead_31 rfl ?_
      exact go_iret dX11_lead_32 rfl vc rfl (Nat.le_refl _) (Nat.le_refl _)
  · replace vc := vc.2 q
    refine go_iconst (v := (-1)) dX11_lead_12 rfl ?_
    exact go_iret dX11_lead_13 rfl vc rfl (Nat.le_refl _) (Nat.le_refl _)
set_option maxRecDepth 20000 in
theorem wX11_match_0 {p : Program} {l : Launch} {e : Env} {s : State} {m : MethodId} {args : Array Value} {below : List Frame} {meth : Method} {c : Code} {G : gG} {d : Nat} {Q : Option Value → gH → Prop} {h : gH} {lk sp : Nat} {cd : Option Nat} {a1 : Int32} (hR : h.2.2 = gRF lk sp cd) (hlk : lk = 30 ∨ lk = 67) (hsp : sp = 30 ∨ sp = 67)  (vc : gC l G d MX4_isBoat [.ref lk, .int a1] h (rI fun v1 h1 => h1.2.2 = (h).2.2 ∧ ((¬ v1 = 0 → gC l G d MX1_matchedHand [.ref 53, .int a1] h1 (rI fun v2 h2 => h2.2.2 = (h1).2.2 ∧ Q (some (.int v2)) h2)) ∧ (v1 = 0 → Q (some (.int (-1))) h1)))) : gg p l e s m args below meth c G (d + 1) MX11_match Q 0 [some (.ref 0), some (.int a1)] [] h := by
  refine go_aload_n (x := 0) dX11_match_0 rfl ?_
  refine go_getR (x := 29) dX11_match_1 f11_49 sh0 (fun _ _ => rfl) (rf0_4 hR) ?_
  refine go_getR (x := lk) dX11_match_4 f11_117 sh29 (fun _ _ => rfl) (rf29_2 hR) ?_
  refine go_iload_n (x := a1) dX11_match_7 rfl ?_
  refine gvI1 MX4_isBoat dX11_match_8 lX11_170 kX4_isBoat vX4_isBoat (slx hlk) (by decide) rfl (Nat.le_of_ble_eq_true rfl) vc ?_
  intro v1 h1 vc
  obtain ⟨hR1, vc⟩ := vc
  replace hR := hR1.trans hR
  refine go_if_ne 16 dX11_match_11 rfl (fun q => ?_) (fun q => ?_)
  · replace vc := vc.1 q
    refine go_aload_n (x := 0) dX11_match_16 rfl ?_
    refine go_getR (x := 53) dX11_match_17 f11_65 sh0 (fun _ _ => rfl) (rf0_6 hR) ?_
    refine go_iload_n (x := a1) dX11_match_20 rfl ?_
    refine gvI1 MX1_matchedHand dX11_match_21 lX11_278 kX1_matchedHand vX1_matchedHand sh53 (by decide) rfl (Nat.le_of_ble_eq_true rfl) vc ?_
    intro v2 h2 vc
    obtain ⟨hR2, vc⟩ := vc
    replace hR := hR2.trans hR
    exact go_iret dX11_match_24 rfl vc rfl (Nat.le_refl _) (Nat.le_refl _)
  · replace vc := vc.2 q
    refine go_iconst (v := (-1)) dX11_match_14 rfl ?_
    exact go_iret dX11_match_15 rfl vc rfl (Nat.le_refl _) (Nat.le_refl _)
set_option maxRecDepth 20000 in
theorem wX11_trials_0 {p : Program} {l : Launch} {e : Env} {s : State} {m : MethodId} {args : Array Value} {below : List Frame} {meth : Method} {c : Code} {G : gG} {d : Nat} {Q : Option Value → gH → Prop} {h : gH} {lk sp : Nat} {cd : Option Nat} {a1 : Int32} (hR : h.2.2 = gRF lk sp cd) (hlk : lk = 30 ∨ lk = 67) (hsp : sp = 30 ∨ sp = 67)  (vc : gC l G d MX8_read [.ref 58, .int a1, .ref 2, .int (h.1 1 2)] h (rI fun v1 h1 => h1.2.2 = (h).2.2 ∧ ((v1 = 0 → gC l G d MX11_refuse [.ref 0, .int 1] (sI h1 1 2 0) (rI fun v2 h2 => h2.2.2 = ((sI h1 1 2 0)).2.2 ∧ Q (some (.int v2)) h2)) ∧ (¬ v1 = 0 → Q (some (.int (h1.1 58 4))) (sI h1 1 2 0))))) : gg p l e s m args below meth c G (d + 1) MX11_trials Q 0 [some (.ref 0), some (.int a1), none] [] h := by
  refine go_aload_n (x := 0) dX11_trials_0 rfl ?_
  refine go_getR (x := 58) dX11_trials_1 f11_72 sh0 (fun _ _ => rfl) (rf0_7 hR) ?_
  refine go_iload_n (x := a1) dX11_trials_4 rfl ?_
  refine go_aload_n (x := 0) dX11_trials_5 rfl ?_
  refine go_getR (x := 1) dX11_trials_6 f11_12 sh0 (fun _ _ => rfl) (rf0_0 hR) ?_
  refine go_getR (x := 2) dX11_trials_9 f11_281 sh1 (fun _ _ => rfl) (rf1_0 hR) ?_
  refine go_aload_n (x := 0) dX11_trials_12 rfl ?_
  refine go_getR (x := 1) dX11_trials_13 f11_12 sh0 (fun _ _ => rfl) (rf0_0 hR) ?_
  refine go_getI' (v := (h.1 1 2)) dX11_trials_16 f11_102 sh1 (fun _ _ => rfl) rfl ?_
  refine gvI3 MX8_read dX11_trials_19 lX11_284 kX8_read vX8_read sh58 (by decide) rfl (Nat.le_of_ble_eq_true rfl) vc ?_
  intro v1 h1 vc
  obtain ⟨hR1, vc⟩ := vc
  replace hR := hR1.trans hR
  refine go_istore_n dX11_trials_22 (Nat.le_of_ble_eq_true rfl) ?_
  show gg p l e s m args below meth c G (d + 1) MX11_trials Q 23 [some (.ref 0), some (.int a1), some (.int v1)] [] h1
  refine go_aload_n (x := 0) dX11_trials_23 rfl ?_
  refine go_getR (x := 1) dX11_trials_24 f11_12 sh0 (fun _ _ => rfl) (rf0_0 hR) ?_
  refine go_iconst (v := 0) dX11_trials_27 rfl ?_
  refine go_putI dX11_trials_28 f11_102 sh1 rfl rfl ?_
  refine go_iload_n (x := v1) dX11_trials_31 rfl ?_
  refine go_if_eq 45 dX11_trials_32 rfl (fun q => ?_) (fun q => ?_)
  · replace vc := vc.1 q
    refine go_aload_n (x := 0) dX11_trials_45 rfl ?_
    refine go_iconst (v := 1) dX11_trials_46 rfl ?_
    refine gvI1 MX11_refuse dX11_trials_47 lX11_105 kX11_refuse vX11_refuse sh0 (by decide) rfl (Nat.le_of_ble_eq_true rfl) vc ?_
    intro v2 h2 vc
    obtain ⟨hR2, vc⟩ := vc
    replace hR := hR2.trans hR
    exact go_iret dX11_trials_50 rfl vc rfl (Nat.le_refl _) (Nat.le_refl _)
  · replace vc := vc.2 q
    refine go_aload_n (x := 0) dX11_trials_35 rfl ?_
    refine go_getR (x := 58) dX11_trials_36 f11_72 sh0 (fun _ _ => rfl) (rf0_7 hR) ?_
    refine go_getI' (v := (h1.1 58 4)) dX11_trials_39 f11_124 sh58 (fun _ _ => rfl) rfl ?_
    refine go_goto 50 dX11_trials_42 rfl ?_
    exact go_iret dX11_trials_50 rfl vc rfl (Nat.le_refl _) (Nat.le_refl _)
set_option maxRecDepth 20000 in
theorem wX11_trusts_0 {p : Program} {l : Launch} {e : Env} {s : State} {m : MethodId} {args : Array Value} {below : List Frame} {meth : Method} {c : Code} {G : gG} {d : Nat} {Q : Option Value → gH → Prop} {h : gH} {lk sp : Nat} {cd : Option Nat} {a1 : Int32} (hR : h.2.2 = gRF lk sp cd) (hlk : lk = 30 ∨ lk = 67) (hsp : sp = 30 ∨ sp = 67)  (vc : ((¬ (h.1 58 4) = 0 → gC l G d MX8_findTrusts [.ref 58] h (rI fun v1 h1 => h1.2.2 = (h).2.2 ∧ ((a1 = 0 → Q (some (.int v1)) h1) ∧ (a1 = 1 → ((v1 ≤ 0 → Q (some (.int (-1))) h1) ∧ (¬ v1 ≤ 0 → Q (some (.int (h1.1 58 5))) h1))) ∧ (a1 = 2 → ((v1 ≤ 0 → Q (some (.int (-1))) h1) ∧ (¬ v1 ≤ 0 → Q (some (.int (h1.1 58 6))) h1))) ∧ (¬ a1 = 0 → ¬ a1 = 1 → ¬ a1 = 2 → Q (some (.int (-1))) h1)))) ∧ ((h.1 58 4) = 0 → Q (some (.int (-1))) h))) : gg p l e s m args below meth c G (d + 1) MX11_trusts Q 0 [some (.ref 0), some (.int a1), none] [] h := by
  refine go_aload_n (x := 0) dX11_trusts_0 rfl ?_
  refine go_getR (x := 58) dX11_trusts_1 f11_72 sh0 (fun _ _ => rfl) (rf0_7 hR) ?_
  refine go_getI' (v := (h.1 58 4)) dX11_trusts_4 f11_124 sh58 (fun _ _ => rfl) rfl ?_
  refine go_if_ne 12 dX11_trusts_7 rfl (fun q => ?_) (fun q => ?_)
  · replace vc := vc.1 q
    refine go_aload_n (x := 0) dX11_trusts_12 rfl ?_
    refine go_getR (x := 58) dX11_trusts_13 f11_72 sh0 (fun _ _ => rfl) (rf0_7 hR) ?_
    refine gvI0 MX8_findTrusts dX11_trusts_16 lX11_288 kX8_findTrusts vX8_findTrusts sh58 (by decide) rfl (Nat.le_of_ble_eq_true rfl) vc ?_
    intro v1 h1 vc
    obtain ⟨hR1, vc⟩ := vc
    replace hR := hR1.trans hR
    refine go_istore_n dX11_trusts_19 (Nat.le_of_ble_eq_true rfl) ?_
    show gg p l e s m args below meth c G (d + 1) MX11_trusts Q 20 [some (.ref 0), some (.int a1), some (.int v1)] [] h1
    refine go_iload_n (x := a1) dX11_trusts_20 rfl ?_
    by_cases q0 : a1 = 0
    · refine go_tableIn (off := 27) 48 dX11_trusts_21 (by rw [q0]; decide) (by rw [q0]; decide) (by rw [q0]; rfl) rfl ?_
      replace vc := vc.1 q0
      refine go_iload_n (x := v1) dX11_trusts_48 rfl ?_
      exact go_iret dX11_trusts_49 rfl vc rfl (Nat.le_refl _) (Nat.le_refl _)
    by_cases q1 : a1 = 1
    · refine go_tableIn (off := 29) 50 dX11_trusts_21 (by rw [q1]; decide) (by rw [q1]; decide) (by rw [q1]; rfl) rfl ?_
      replace vc := vc.2.1 q1
      refine go_iload_n (x := v1) dX11_trusts_50 rfl ?_
      refine go_if_le 64 dX11_trusts_51 rfl (fun q => ?_) (fun q => ?_)
      · replace vc := vc.1 q
        refine go_iconst (v := (-1)) dX11_trusts_64 rfl ?_
        exact go_iret dX11_trusts_65 rfl vc rfl (Nat.le_refl _) (Nat.le_refl _)
      · replace vc := vc.2 q
        refine go_aload_n (x := 0) dX11_trusts_54 rfl ?_
        refine go_getR (x := 58) dX11_trusts_55 f11_72 sh0 (fun _ _ => rfl) (rf0_7 hR) ?_
        refine go_getI' (v := (h1.1 58 5)) dX11_trusts_58 f11_291 sh58 (fun _ _ => rfl) rfl ?_
        refine go_goto 65 dX11_trusts_61 rfl ?_
        exact go_iret dX11_trusts_65 rfl vc rfl (Nat.le_refl _) (Nat.le_refl _)
    by_cases q2 : a1 = 2
    · refine go_tableIn (off := 45) 66 dX11_trusts_21 (by rw [q2]; decide) (by rw [q2]; decide) (by rw [q2]; rfl) rfl ?_
      replace vc := vc.2.2.1 q2
      refine go_iload_n (x := v1) dX11_trusts_66 rfl ?_
      refine go_if_le 80 dX11_trusts_67 rfl (fun q => ?_) (fun q => ?_)
      · replace vc := vc.1 q
        refine go_iconst (v := (-1)) dX11_trusts_80 rfl ?_
        exact go_iret dX11_trusts_81 rfl vc rfl (Nat.le_refl _) (Nat.le_refl _)
      · replace vc := vc.2 q
        refine go_aload_n (x := 0) dX11_trusts_70 rfl ?_
        refine go_getR (x := 58) dX11_trusts_71 f11_72 sh0 (fun _ _ => rfl) (rf0_7 hR) ?_
        refine go_getI' (v := (h1.1 58 6)) dX11_trusts_74 f11_294 sh58 (fun _ _ => rfl) rfl ?_
        refine go_goto 81 dX11_trusts_77 rfl ?_
        exact go_iret dX11_trusts_81 rfl vc rfl (Nat.le_refl _) (Nat.le_refl _)
    replace vc := vc.2.2.2 q0 q1 q2
    refine go_tableOut 82 dX11_trusts_21 ?_ rfl ?_
    · have e0 : ¬ (a1).toInt = 0 := lv_neT q0 rfl; have e1 : ¬ (a1).toInt = 1 := lv_neT q1 rfl; have e2 : ¬ (a1).toInt = 2 := lv_neT q2 rfl
      omega
    refine go_iconst (v := (-1)) dX11_trusts_82 rfl ?_
    exact go_iret dX11_trusts_83 rfl vc rfl (Nat.le_refl _) (Nat.le_refl _)
  · replace vc := vc.2 q
    refine go_iconst (v := (-1)) dX11_trusts_10 rfl ?_
    exact go_iret dX11_trusts_11 rfl vc rfl (Nat.le_refl _) (Nat.le_refl _)
set_option maxRecDepth 20000 in
theorem wX11_next_0 {p : Program} {l : Launch} {e : Env} {s : State} {m : MethodId} {args : Array Value} {below : List Frame} {meth : Method} {c : Code} {G : gG} {d : Nat} {Q : Option Value → gH → Prop} {h : gH} {lk sp : Nat} {cd : Option Nat} {a1 : Int32} (hR : h.2.2 = gRF lk sp cd) (hlk : lk = 30 ∨ lk = 67) (hsp : sp = 30 ∨ sp = 67)  (vc : (((h.1 58 4) = 0 → Q (some (.int (-1))) h) ∧ (¬ (h.1 58 4) = 0 → gC l G d MX8_findTrusts [.ref 58] h (rI fun v1 h1 => h1.2.2 = (h).2.2 ∧ ((¬ v1 = 0 → gC l G d MX8_findNext [.ref 58] h1 (rI fun v2 h2 => h2.2.2 = (h1).2.2 ∧ ((a1 = 0 → Q (some (.int v2)) h2) ∧ (a1 = 1 → Q (some (.int (h2.1 58 7))) h2) ∧ (¬ a1 = 0 → ¬ a1 = 1 → Q (some (.int (-1))) h2)))) ∧ (v1 = 0 → Q (some (.int (-1))) h1)))))) : gg p l e s m args below meth c G (d + 1) MX11_next Q 0 [some (.ref 0), some (.int a1), none] [] h := by
  refine go_aload_n (x := 0) dX11_next_0 rfl ?_
  refine go_getR (x := 58) dX11_next_1 f11_72 sh0 (fun _ _ => rfl) (rf0_7 hR) ?_
  refine go_getI' (v := (h.1 58 4)) dX11_next_4 f11_124 sh58 (fun _ _ => rfl) rfl ?_
  refine go_if_eq 20 dX11_next_7 rfl (fun q => ?_) (fun q => ?_)
  · replace vc := vc.1 q
    refine go_iconst (v := (-1)) dX11_next_20 rfl ?_
    exact go_iret dX11_next_21 rfl vc rfl (Nat.le_refl _) (Nat.le_refl _)
  · replace vc := vc.2 q
    refine go_aload_n (x := 0) dX11_next_10 rfl ?_
    refine go_getR (x := 58) dX11_next_11 f11_72 sh0 (fun _ _ => rfl) (rf0_7 hR) ?_
    refine gvI0 MX8_findTrusts dX11_next_14 lX11_288 kX8_findTrusts vX8_findTrusts sh58 (by decide) rfl (Nat.le_of_ble_eq_true rfl) vc ?_
    intro v1 h1 vc
    obtain ⟨hR1, vc⟩ := vc
    replace hR := hR1.trans hR
    refine go_if_ne 22 dX11_next_17 rfl (fun q => ?_) (fun q => ?_)
    · replace vc := vc.1 q
      refine go_aload_n (x := 0) dX11_next_22 rfl ?_
      refine go_getR (x := 58) dX11_next_23 f11_72 sh0 (fun _ _ => rfl) (rf0_7 hR) ?_
      refine gvI0 MX8_findNext dX11_next_26 lX11_297 kX8_findNext vX8_findNext sh58 (by decide) rfl (Nat.le_of_ble_eq_true rfl) vc ?_
      intro v2 h2 vc
      obtain ⟨hR2, vc⟩ := vc
      replace hR := hR2.trans hR
      refine go_istore_n dX11_next_29 (Nat.le_of_ble_eq_true rfl) ?_
      show gg p l e s m args below meth c G (d + 1) MX11_next Q 30 [some (.ref 0), some (.int a1), some (.int v2)] [] h2
      refine go_iload_n (x := a1) dX11_next_30 rfl ?_
      by_cases q0 : a1 = 0
      · refine go_lookup (off := 25) 56 dX11_next_31 (by decide) (by rw [q0]; rfl) rfl ?_
        replace vc := vc.1 q0
        refine go_iload_n (x := v2) dX11_next_56 rfl ?_
        exact go_iret dX11_next_57 rfl vc rfl (Nat.le_refl _) (Nat.le_refl _)
      by_cases q1 : a1 = 1
      · refine go_lookup (off := 27) 58 dX11_next_31 (by decide) (by rw [q1]; rfl) rfl ?_
        replace vc := vc.2.1 q1
        refine go_aload_n (x := 0) dX11_next_58 rfl ?_
        refine go_getR (x := 58) dX11_next_59 f11_72 sh0 (fun _ _ => rfl) (rf0_7 hR) ?_
        refine go_getI' (v := (h2.1 58 7)) dX11_next_62 f11_300 sh58 (fun _ _ => rfl) rfl ?_
        exact go_iret dX11_next_65 rfl vc rfl (Nat.le_refl _) (Nat.le_refl _)
      replace vc := vc.2.2 q0 q1
      refine go_lookup 66 dX11_next_31 (by decide) ((lv_osw q0 rfl).trans ((lv_osw q1 rfl).trans rfl)) rfl ?_
      refine go_iconst (v := (-1)) dX11_next_66 rfl ?_
      exact go_iret dX11_next_67 rfl vc rfl (Nat.le_refl _) (Nat.le_refl _)
    · replace vc := vc.2 q
      refine go_iconst (v := (-1)) dX11_next_20 rfl ?_
      exact go_iret dX11_next_21 rfl vc rfl (Nat.le_refl _) (Nat.le_refl _)
set_option maxRecDepth 20000 in
theorem wX11_go_0 {p : Program} {l : Launch} {e : Env} {s : State} {m : MethodId} {args : Array Value} {below : List Frame} {meth : Method} {c : Code} {G : gG} {d : Nat} {Q : Option Value → gH → Prop} {h : gH} {lk sp : Nat} {cd : Option Nat} {a1 : Int32} {a2 : Int32} (hR : h.2.2 = gRF lk sp cd) (hlk : lk = 30 ∨ lk = 67) (hsp : sp = 30 ∨ sp = 67)  (vc : gC l G d MX4_isBoat [.ref lk, .int a1] h (rI fun v1 h1 => h1.2.2 = (h).2.2 ∧ ((v1 = 0 → gC l G d MX11_refuse [.ref 0, .int 2] h1 (rI fun v2 h2 => h2.2.2 = (h1).2.2 ∧ Q (some (.int v2)) h2)) ∧ (¬ v1 = 0 → gC l G d MX2_cellOf [.ref 6, .int a1] h1 (rI fun v3 h3 => h3.2.2 = (h1).2.2 ∧ gC l G d MX4_isBeside [.ref lk, .int v3, .int a2] h3 (rI fun v4 h4 => h4.2.2 = (h3).2.2 ∧ ((¬ v4 = 0 → gC l G d MX2_remember [.ref 6] h4 (rV fun h5 => h5.2.2 = (h4).2.2 ∧ gC l G d MX9_attempt [.ref 29, .int a1, .int a2, .int (-1)] h5 (rI fun v6 h6 => h6.2.2 = (h5).2.2 ∧ Q (some (.int v6)) h6))) ∧ (v4 = 0 → gC l G d MX11_refuse [.ref 0, .int 2] h4 (rI fun v7 h7 => h7.2.2 = (h4).2.2 ∧ Q (some (.int v7)) h7))))))))) : gg p l e s m args below meth c G (d + 1) MX11_go Q 0 [some (.ref 0), some (.int a1), some (.int a2)] [] h := by
  refine go_aload_n (x := 0) dX11_go_0 rfl ?_
  refine go_getR (x := 29) dX11_go_1 f11_49 sh0 (fun _ _ => rfl) (rf0_4 hR) ?_
  refine go_getR (x := lk) dX11_go_4 f11_117 sh29 (fun _ _ => rfl) (rf29_2 hR) ?_
  refine go_iload_n (x := a1) dX11_go_7 rfl ?_
  refine gvI1 MX4_isBoat dX11_go_8 lX11_170 kX4_isBoat vX4_isBoat (slx hlk) (by decide) rfl (Nat.le_of_ble_eq_true rfl) vc ?_
  intro v1 h1 vc
  obtain ⟨hR1, vc⟩ := vc
  replace hR := hR1.trans hR
  refine go_if_eq 36 dX11_go_11 rfl (fun q => ?_) (fun q => ?_)
  · replace vc := vc.1 q
    refine go_aload_n (x := 0) dX11_go_36 rfl ?_
    refine go_iconst (v := 2) dX11_go_37 rfl ?_
    refine gvI1 MX11_refuse dX11_go_38 lX11_105 kX11_refuse vX11_refuse sh0 (by decide) rfl (Nat.le_of_ble_eq_true rfl) vc ?_
    intro v2 h2 vc
    obtain ⟨hR2, vc⟩ := vc
    replace hR := hR2.trans hR
    exact go_iret dX11_go_41 rfl vc rfl (Nat.le_refl _) (Nat.le_refl _)
  · replace vc := vc.2 q
    refine go_aload_n (x := 0) dX11_go_14 rfl ?_
    refine go_getR (x := 29) dX11_go_15 f11_49 sh0 (fun _ _ => rfl) (rf0_4 hR) ?_
    refine go_getR (x := lk) dX11_go_18 f11_117 sh29 (fun _ _ => rfl) (rf29_2 hR) ?_
    refine go_aload_n (x := 0) dX11_go_21 rfl ?_
    refine go_getR (x := 6) dX11_go_22 f11_37 sh0 (fun _ _ => rfl) (rf0_3 hR) ?_
    refine go_iload_n (x := a1) dX11_go_25 rfl ?_
    refine gvI1 MX2_cellOf dX11_go_26 lX11_187 kX2_cellOf vX2_cellOf sh6 (by decide) rfl (Nat.le_of_ble_eq_true rfl) vc ?_
    intro v3 h3 vc
    obtain ⟨hR3, vc⟩ := vc
    replace hR := hR3.trans hR
    refine go_iload_n (x := a2) dX11_go_29 rfl ?_
    refine gvI2 MX4_isBeside dX11_go_30 lX11_303 kX4_isBeside vX4_isBeside (slx hlk) (by decide) rfl (Nat.le_of_ble_eq_true rfl) vc ?_
    intro v4 h4 vc
    obtain ⟨hR4, vc⟩ := vc
    replace hR := hR4.trans hR
    refine go_if_ne 42 dX11_go_33 rfl (fun q => ?_) (fun q => ?_)
    · replace vc := vc.1 q
      refine go_aload_n (x := 0) dX11_go_42 rfl ?_
      refine go_getR (x := 6) dX11_go_43 f11_37 sh0 (fun _ _ => rfl) (rf0_3 hR) ?_
      refine gvV0 MX2_remember dX11_go_46 lX11_306 kX2_remember vX2_remember sh6 (by decide) rfl (Nat.le_of_ble_eq_true rfl) vc ?_
      intro h5 vc
      obtain ⟨hR5, vc⟩ := vc
      replace hR := hR5.trans hR
      refine go_aload_n (x := 0) dX11_go_49 rfl ?_
      refine go_getR (x := 29) dX11_go_50 f11_49 sh0 (fun _ _ => rfl) (rf0_4 hR) ?_
      refine go_iload_n (x := a1) dX11_go_53 rfl ?_
      refine go_iload_n (x := a2) dX11_go_54 rfl ?_
      refine go_iconst (v := (-1)) dX11_go_55 rfl ?_
      refine gvI3 MX9_attempt dX11_go_56 lX11_309 kX9_attempt vX9_attempt sh29 (by decide) rfl (Nat.le_of_ble_eq_true rfl) vc ?_
      intro v6 h6 vc
      obtain ⟨hR6, vc⟩ := vc
      replace hR := hR6.trans hR
      exact go_iret dX11_go_59 rfl vc rfl (Nat.le_refl _) (Nat.le_refl _)
    · replace vc := vc.2 q
      refine go_aload_n (x := 0) dX11_go_36 rfl ?_
      refine go_iconst (v := 2) dX11_go_37 rfl ?_
      refine gvI1 MX11_refuse dX11_go_38 lX11_105 kX11_refuse vX11_refuse sh0 (by decide) rfl (Nat.le_of_ble_eq_true rfl) vc ?_
      intro v7 h7 vc
      obtain ⟨hR7, vc⟩ := vc
      replace hR := hR7.trans hR
      exact go_iret dX11_go_41 rfl vc rfl (Nat.le_refl _) (Nat.le_refl _)
set_option maxRecDepth 20000 in
theorem wX11_file_0 {p : Program} {l : Launch} {e : Env} {s : State} {m : MethodId} {args : Array Value} {below : List Frame} {meth : Method} {c : Code} {G : gG} {d : Nat} {Q : Option Value → gH → Prop} {h : gH} {lk sp : Nat} {cd : Option Nat} {a1 : Int32} (hR : h.2.2 = gRF lk sp cd) (hlk : lk = 30 ∨ lk = 67) (hsp : sp = 30 ∨ sp = 67)  (vc : gC l G d MX11_bitsOfTape [.ref 0, .int (h.1 1 2)] (sI h 1 2 0) (rI fun v1 h1 => h1.2.2 = ((sI h 1 2 0)).2.2 ∧ gC l G d MX1_canTry [.ref 53, .int v1, .int a1] h1 (rI fun v2 h2 => h2.2.2 = (h1).2.2 ∧ ((¬ v2 = 0 → gC l G d MX2_remember [.ref 6] h2 (rV fun h3 => h3.2.2 = (h2).2.2 ∧ gC l G d MX1_sendFile [.ref 53, .ref 2, .int (h.1 1 2), .int a1] h3 (rI fun v4 h4 => h4.2.2 = (h3).2.2 ∧ Q (some (.int v4)) h4))) ∧ (v2 = 0 → gC l G d MX11_refuse [.ref 0, .int 2] h2 (rI fun v5 h5 => h5.2.2 = (h2).2.2 ∧ Q (some (.int v5)) h5)))))) : gg p l e s m args below meth c G (d + 1) MX11_file Q 0 [some (.ref 0), some (.int a1), none] [] h := by
  refine go_aload_n (x := 0) dX11_file_0 rfl ?_
  refine go_getR (x := 1) dX11_file_1 f11_12 sh0 (fun _ _ => rfl) (rf0_0 hR) ?_
  refine go_getI' (v := (h.1 1 2)) dX11_file_4 f11_102 sh1 (fun _ _ => rfl) rfl ?_
  refine go_istore_n dX11_file_7 (Nat.le_of_ble_eq_true rfl) ?_
  show gg p l e s m args below meth c G (d + 1) MX11_file Q 8 [some (.ref 0), some (.int a1), some (.int (h.1 1 2))] [] h
  refine go_aload_n (x := 0) dX11_file_8 rfl ?_
  refine go_getR (x := 1) dX11_file_9 f11_12 sh0 (fun _ _ => rfl) (rf0_0 hR) ?_
  refine go_iconst (v := 0) dX11_file_12 rfl ?_
  refine go_putI dX11_file_13 f11_102 sh1 rfl rfl ?_
  refine go_aload_n (x := 0) dX11_file_16 rfl ?_
  refine go_getR (x := 53) dX11_file_17 f11_65 sh0 (fun _ _ => rfl) (rf0_6 hR) ?_
  refine go_aload_n (x := 0) dX11_file_20 rfl ?_
  refine go_iload_n (x := (h.1 1 2)) dX11_file_21 rfl ?_
  refine gvI1 MX11_bitsOfTape dX11_file_22 lX11_312 kX11_bitsOfTape vX11_bitsOfTape sh0 (by decide) rfl (Nat.le_of_ble_eq_true rfl) vc ?_
  intro v1 h1 vc
  obtain ⟨hR1, vc⟩ := vc
  replace hR := hR1.trans hR
  refine go_iload_n (x := a1) dX11_file_25 rfl ?_
  refine gvI2 MX1_canTry dX11_file_26 lX11_257 kX1_canTry vX1_canTry sh53 (by decide) rfl (Nat.le_of_ble_eq_true rfl) vc ?_
  intro v2 h2 vc
  obtain ⟨hR2, vc⟩ := vc
  replace hR := hR2.trans hR
  refine go_if_ne 38 dX11_file_29 rfl (fun q => ?_) (fun q => ?_)
  · replace vc := vc.1 q
    refine go_aload_n (x := 0) dX11_file_38 rfl ?_
    refine go_getR (x := 6) dX11_file_39 f11_37 sh0 (fun _ _ => rfl) (rf0_3 hR) ?_
    refine gvV0 MX2_remember dX11_file_42 lX11_306 kX2_remember vX2_remember sh6 (by decide) rfl (Nat.le_of_ble_eq_true rfl) vc ?_
    intro h3 vc
    obtain ⟨hR3, vc⟩ := vc
    replace hR := hR3.trans hR
    refine go_aload_n (x := 0) dX11_file_45 rfl ?_
    refine go_getR (x := 53) dX11_file_46 f11_65 sh0 (fun _ _ => rfl) (rf0_6 hR) ?_
    refine go_aload_n (x := 0) dX11_file_49 rfl ?_
    refine go_getR (x := 1) dX11_file_50 f11_12 sh0 (fun _ _ => rfl) (rf0_0 hR) ?_
    refine go_getR (x := 2) dX11_file_53 f11_281 sh1 (fun _ _ => rfl) (rf1_0 hR) ?_
    refine go_iload_n (x := (h.1 1 2)) dX11_file_56 rfl ?_
    refine go_iload_n (x := a1) dX11_file_57 rfl ?_
    refine gvI3 MX1_sendFile dX11_file_58 lX11_315 kX1_sendFile vX1_sendFile sh53 (by decide) rfl (Nat.le_of_ble_eq_true rfl) vc ?_
    intro v4 h4 vc
    obtain ⟨hR4, vc⟩ := vc
    replace hR := hR4.trans hR
    exact go_iret dX11_file_61 rfl vc rfl (Nat.le_refl _) (Nat.le_refl _)
  · replace vc := vc.2 q
    refine go_aload_n (x := 0) dX11_file_32 rfl ?_
    refine go_iconst (v := 2) dX11_file_33 rfl ?_
    refine gvI1 MX11_refuse dX11_file_34 lX11_105 kX11_refuse vX11_refuse sh0 (by decide) rfl (Nat.le_of_ble_eq_true rfl) vc ?_
    intro v5 h5 vc
    obtain ⟨hR5, vc⟩ := vc
    replace hR := hR5.trans hR
    exact go_iret dX11_file_37 rfl vc rfl (Nat.le_refl _) (Nat.le_refl _)
set_option maxRecDepth 20000 in
theorem wX11_coax_0 {p : Program} {l : Launch} {e : Env} {s : State} {m : MethodId} {args : Array Value} {below : List Frame} {meth : Method} {c : Code} {G : gG} {d : Nat} {Q : Option Value → gH → Prop} {h : gH} {lk sp : Nat} {cd : Option Nat} {a1 : Int32} {a2 : Int32} (hR : h.2.2 = gRF lk sp cd) (hlk : lk = 30 ∨ lk = 67) (hsp : sp = 30 ∨ sp = 67)  (vc : gC l G d MX4_isBoat [.ref lk, .int a1] h (rI fun v1 h1 => h1.2.2 = (h).2.2 ∧ ((v1 = 0 → gC l G d MX11_refuse [.ref 0, .int 3] h1 (rI fun v2 h2 => h2.2.2 = (h1).2.2 ∧ Q (some (.int v2)) h2)) ∧ (¬ v1 = 0 → ((a2 < 1 → gC l G d MX11_refuse [.ref 0, .int 3] h1 (rI fun v3 h3 => h3.2.2 = (h1).2.2 ∧ Q (some (.int v3)) h3)) ∧ (¬ a2 < 1 → ((a2 ≤ 99 → gC l G d MX2_remember [.ref 6] h1 (rV fun h4 => h4.2.2 = (h1).2.2 ∧ gC l G d MX2_pay [.ref 6, .int a2] h4 (rV fun h5 => h5.2.2 = (h4).2.2 ∧ gC l G d MX2_trustOf [.ref 6, .int a1] h5 (rI fun v6 h6 => h6.2.2 = (h5).2.2 ∧ gC l G d MX2_setTrust [.ref 6, .int a1, .int (if (v6 + (a2 * (h6.1 lk 16))) < 99 then (v6 + (a2 * (h6.1 lk 16))) else 99)] h6 (rV fun h7 => h7.2.2 = (h6).2.2 ∧ gC l G d MX2_trustOf [.ref 6, .int a1] h7 (rI fun v8 h8 => h8.2.2 = (h7).2.2 ∧ Q (some (.int v8)) h8)))))) ∧ (¬ a2 ≤ 99 → gC l G d MX11_refuse [.ref 0, .int 3] h1 (rI fun v9 h9 => h9.2.2 = (h1).2.2 ∧ Q (some (.int v9)) h9))))))))) : gg p l e s m args below meth c G (d + 1) MX11_coax Q 0 [some (.ref 0), some (.int a1), some (.int a2)] [] h := by
  refine go_aload_n (x := 0) dX11_coax_0 rfl ?_
  refine go_getR (x := 29) dX11_coax_1 f11_49 sh0 (fun _ _ => rfl) (rf0_4 hR) ?_
  refine go_getR (x := lk) dX11_coax_4 f11_117 sh29 (fun _ _ => rfl) (rf29_2 hR) ?_
  refine go_iload_n (x := a1) dX11_coax_7 rfl ?_
  refine gvI1 MX4_isBoat dX11_coax_8 lX11_170 kX4_isBoat vX4_isBoat (slx hlk) (by decide) rfl (Nat.le_of_ble_eq_true rfl) vc ?_
  intro v1 h1 vc
  obtain ⟨hR1, vc⟩ := vc
  replace hR := hR1.trans hR
  refine go_if_eq 25 dX11_coax_11 rfl (fun q => ?_) (fun q => ?_)
  · replace vc := vc.1 q
    refine go_aload_n (x := 0) dX11_coax_25 rfl ?_
    refine go_iconst (v := 3) dX11_coax_26 rfl ?_
    refine gvI1 MX11_refuse dX11_coax_27 lX11_105 kX11_refuse vX11_refuse sh0 (by decide) rfl (Nat.le_of_ble_eq_true rfl) vc ?_
    intro v2 h2 vc
    obtain ⟨hR2, vc⟩ := vc
    replace hR := hR2.trans hR
    exact go_iret dX11_coax_30 rfl vc rfl (Nat.le_refl _) (Nat.le_refl _)
  · replace vc := vc.2 q
    refine go_iload_n (x := a2) dX11_coax_14 rfl ?_
    refine go_iconst (v := 1) dX11_coax_15 rfl ?_
    refine go_icmp_lt 25 dX11_coax_16 rfl (fun q => ?_) (fun q => ?_)
    · replace vc := vc.1 q
      refine go_aload_n (x := 0) dX11_coax_25 rfl ?_
      refine go_iconst (v := 3) dX11_coax_26 rfl ?_
      refine gvI1 MX11_refuse dX11_coax_27 lX11_105 kX11_refuse vX11_refuse sh0 (by decide) rfl (Nat.le_of_ble_eq_true rfl) vc ?_
      intro v3 h3 vc
      obtain ⟨hR3, vc⟩ := vc
      replace hR := hR3.trans hR
      exact go_iret dX11_coax_30 rfl vc rfl (Nat.le_refl _) (Nat.le_refl _)
    · replace vc := vc.2 q
      refine go_iload_n (x := a2) dX11_coax_19 rfl ?_
      refine go_bipush (v := 99) dX11_coax_20 rfl ?_
      refine go_icmp_le 31 dX11_coax_22 rfl (fun q => ?_) (fun q => ?_)
      · replace vc := vc.1 q
        refine go_aload_n (x := 0) dX11_coax_31 rfl ?_
        refine go_getR (x := 6) dX11_coax_32 f11_37 sh0 (fun _ _ => rfl) (rf0_3 hR) ?_
        refine gvV0 MX2_remember dX11_coax_35 lX11_306 kX2_remember vX2_remember sh6 (by decide) rfl (Nat.le_of_ble_eq_true rfl) vc ?_
        intro h4 vc
        obtain ⟨hR4, vc⟩ := vc
        replace hR := hR4.trans hR
        refine go_aload_n (x := 0) dX11_coax_38 rfl ?_
        refine go_getR (x := 6) dX11_coax_39 f11_37 sh0 (fun _ _ => rfl) (rf0_3 hR) ?_
        refine go_iload_n (x := a2) dX11_coax_42 rfl ?_
        refine gvV1 MX2_pay dX11_coax_43 lX11_319 kX2_pay vX2_pay sh6 (by decide) rfl (Nat.le_of_ble_eq_true rfl) vc ?_
        intro h5 vc
        obtain ⟨hR5, vc⟩ := vc
        replace hR := hR5.trans hR
        refine go_aload_n (x := 0) dX11_coax_46 rfl ?_
        refine go_getR (x := 6) dX11_coax_47 f11_37 sh0 (fun _ _ => rfl) (rf0_3 hR) ?_
        refine go_iload_n (x := a1) dX11_coax_50 rfl ?_
        refine go_bipush (v := 99) dX11_coax_51 rfl ?_
        refine go_aload_n (x := 0) dX11_coax_53 rfl ?_
        refine go_getR (x := 6) dX11_coax_54 f11_37 sh0 (fun _ _ => rfl) (rf0_3 hR) ?_
        refine go_iload_n (x := a1) dX11_coax_57 rfl ?_
        refine gvI1 MX2_trustOf dX11_coax_58 lX11_190 kX2_trustOf vX2_trustOf sh6 (by decide) rfl (Nat.le_of_ble_eq_true rfl) vc ?_
        intro v6 h6 vc
        obtain ⟨hR6, vc⟩ := vc
        replace hR := hR6.trans hR
        refine go_iload_n (x := a2) dX11_coax_61 rfl ?_
        refine go_aload_n (x := 0) dX11_coax_62 rfl ?_
        refine go_getR (x := 29) dX11_coax_63 f11_49 sh0 (fun _ _ => rfl) (rf0_4 hR) ?_
        refine go_getR (x := lk) dX11_coax_66 f11_117 sh29 (fun _ _ => rfl) (rf29_2 hR) ?_
        refine go_getI' (v := (h6.1 lk 16)) dX11_coax_69 f11_322 (slx hlk) (fun _ _ => rfl) rfl ?_
        refine go_imul dX11_coax_72 ?_
        refine go_iadd dX11_coax_73 ?_
        refine go_min dX11_coax_74 lX11_325 (Nat.le_of_ble_eq_true rfl) ?_
        refine gvV2 MX2_setTrust dX11_coax_77 lX11_330 kX2_setTrust vX2_setTrust sh6 (by decide) rfl (Nat.le_of_ble_eq_true rfl) vc ?_
        intro h7 vc
        obtain ⟨hR7, vc⟩ := vc
        replace hR := hR7.trans hR
        refine go_aload_n (x := 0) dX11_coax_80 rfl ?_
        refine go_getR (x := 6) dX11_coax_81 f11_37 sh0 (fun _ _ => rfl) (rf0_3 hR) ?_
        refine go_iload_n (x := a1) dX11_coax_84 rfl ?_
        refine gvI1 MX2_trustOf dX11_coax_85 lX11_190 kX2_trustOf vX2_trustOf sh6 (by decide) rfl (Nat.le_of_ble_eq_true rfl) vc ?_
        intro v8 h8 vc
        obtain ⟨hR8, vc⟩ := vc
        replace hR := hR8.trans hR
        exact go_iret dX11_coax_88 rfl vc rfl (Nat.le_refl _) (Nat.le_refl _)
      · replace vc := vc.2 q
        refine go_aload_n (x := 0) dX11_coax_25 rfl ?_
        refine go_iconst (v := 3) dX11_coax_26 rfl ?_
        refine gvI1 MX11_refuse dX11_coax_27 lX11_105 kX11_refuse vX11_refuse sh0 (by decide) rfl (Nat.le_of_ble_eq_true rfl) vc ?_
        intro v9 h9 vc
        obtain ⟨hR9, vc⟩ := vc
        replace hR := hR9.trans hR
        exact go_iret dX11_coax_30 rfl vc rfl (Nat.le_refl _) (Nat.le_refl _)
set_option maxRecDepth 20000 in
theorem wX11_man_0 {p : Program} {l : Launch} {e : Env} {s : State} {m : MethodId} {args : Array Value} {below : List Frame} {meth : Method} {c : Code} {G : gG} {d : Nat} {Q : Option Value → gH → Prop} {h : gH} {lk sp : Nat} {cd : Option Nat} {a1 : Int32} {a2 : Int32} (hR : h.2.2 = gRF lk sp cd) (hlk : lk = 30 ∨ lk = 67) (hsp : sp = 30 ∨ sp = 67)  (vc : gC l G d MX4_isBoat [.ref lk, .int a1] h (rI fun v1 h1 => h1.2.2 = (h).2.2 ∧ ((v1 = 0 → gC l G d MX11_refuse [.ref 0, .int 3] h1 (rI fun v2 h2 => h2.2.2 = (h1).2.2 ∧ Q (some (.int 0)) h2)) ∧ (¬ v1 = 0 → ((a2 = (-1) → gC l G d MX2_handOf [.ref 6, .int a1] h1 (rI fun v3 h3 => h3.2.2 = (h1).2.2 ∧ ((¬ v3 = a2 → gC l G d MX2_remember [.ref 6] h3 (rV fun h4 => h4.2.2 = (h3).2.2 ∧ gC l G d MX2_crew [.ref 6, .int a1, .int a2] h4 (rV fun h5 => h5.2.2 = (h4).2.2 ∧ Q (some (.int 1)) h5))) ∧ (v3 = a2 → gC l G d MX11_refuse [.ref 0, .int 3] h3 (rI fun v6 h6 => h6.2.2 = (h3).2.2 ∧ Q (some (.int 0)) h6))))) ∧ (¬ a2 = (-1) → gC l G d MX4_isHand [.ref lk, .int a2] h1 (rI fun v7 h7 => h7.2.2 = (h1).2.2 ∧ ((v7 = 0 → gC l G d MX11_refuse [.ref 0, .int 3] h7 (rI fun v8 h8 => h8.2.2 = (h7).2.2 ∧ Q (some (.int 0)) h8)) ∧ (¬ v7 = 0 → gC l G d MX2_handOf [.ref 6, .int a1] h7 (rI fun v9 h9 => h9.2.2 = (h7).2.2 ∧ ((¬ v9 = a2 → gC l G d MX2_remember [.ref 6] h9 (rV fun h10 => h10.2.2 = (h9).2.2 ∧ gC l G d MX2_crew [.ref 6, .int a1, .int a2] h10 (rV fun h11 => h11.2.2 = (h10).2.2 ∧ Q (some (.int 1)) h11))) ∧ (v9 = a2 → gC l G d MX11_refuse [.ref 0, .int 3] h9 (rI fun v12 h12 => h12.2.2 = (h9).2.2 ∧ Q (some (.int 0)) h12))))))))))))) : gg p l e s m args below meth c G (d + 1) MX11_man Q 0 [some (.ref 0), some (.int a1), some (.int a2), none, none] [] h := by
  refine go_aload_n (x := 0) dX11_man_0 rfl ?_
  refine go_getR (x := 29) dX11_man_1 f11_49 sh0 (fun _ _ => rfl) (rf0_4 hR) ?_
  refine go_getR (x := lk) dX11_man_4 f11_117 sh29 (fun _ _ => rfl) (rf29_2 hR) ?_
  refine go_astore_n dX11_man_7 (Nat.le_of_ble_eq_true rfl) ?_
  show gg p l e s m args below meth c G (d + 1) MX11_man Q 8 [some (.ref 0), some (.int a1), some (.int a2), some (.ref lk), none] [] h
  refine go_aload_n (x := lk) dX11_man_8 rfl ?_
  refine go_iload_n (x := a1) dX11_man_9 rfl ?_
  refine gvI1 MX4_isBoat dX11_man_10 lX11_170 kX4_isBoat vX4_isBoat (slx hlk) (by decide) rfl (Nat.le_of_ble_eq_true rfl) vc ?_
  intro v1 h1 vc
  obtain ⟨hR1, vc⟩ := vc
  replace hR := hR1.trans hR
  refine go_if_eq 33 dX11_man_13 rfl (fun q => ?_) (fun q => ?_)
  · replace vc := vc.1 q
    refine go_iconst (v := 0) dX11_man_33 rfl ?_
    refine go_istore dX11_man_34 (Nat.le_of_ble_eq_true rfl) ?_
    show gg p l e s m args below meth c G (d + 1) MX11_man Q 36 [some (.ref 0), some (.int a1), some (.int a2), some (.ref lk), some (.int 0)] [] h1
    refine go_iload (x := 0) dX11_man_36 rfl ?_
    refine go_if_eq 53 dX11_man_38 rfl (fun q => ?_) (fun q => absurd q (by decide))
    refine go_aload_n (x := 0) dX11_man_53 rfl ?_
    refine go_iconst (v := 3) dX11_man_54 rfl ?_
    refine gvI1 MX11_refuse dX11_man_55 lX11_105 kX11_refuse vX11_refuse sh0 (by decide) rfl (Nat.le_of_ble_eq_true rfl) vc ?_
    intro v2 h2 vc
    obtain ⟨hR2, vc⟩ := vc
    replace hR := hR2.trans hR
    refine go_pop dX11_man_58 rfl ?_
    refine go_iconst (v := 0) dX11_man_59 rfl ?_
    exact go_zret dX11_man_60 rfl (by decide) vc rfl (Nat.le_refl _) (Nat.le_refl _)
  · replace vc := vc.2 q
    refine go_iload_n (x := a2) dX11_man_16 rfl ?_
    refine go_iconst (v := (-1)) dX11_man_17 rfl ?_
    refine go_icmp_eq 29 dX11_man_18 rfl (fun q => ?_) (fun q => ?_)
    · replace vc := vc.1 q
      refine go_iconst (v := 1) dX11_man_29 rfl ?_
      refine go_goto 34 dX11_man_30 rfl ?_
      refine go_istore dX11_man_34 (Nat.le_of_ble_eq_true rfl) ?_
      show gg p l e s m args below meth c G (d + 1) MX11_man Q 36 [some (.ref 0), some (.int a1), some (.int a2), some (.ref lk), some (.int 1)] [] h1
      refine go_iload (x := 1) dX11_man_36 rfl ?_
      refine go_if_eq 53 dX11_man_38 rfl (fun q => absurd q (by decide)) (fun q => ?_)
      refine go_aload_n (x := 0) dX11_man_41 rfl ?_
      refine go_getR (x := 6) dX11_man_42 f11_37 sh0 (fun _ _ => rfl) (rf0_3 hR) ?_
      refine go_iload_n (x := a1) dX11_man_45 rfl ?_
      refine gvI1 MX2_handOf dX11_man_46 lX11_196 kX2_handOf vX2_handOf sh6 (by decide) rfl (Nat.le_of_ble_eq_true rfl) vc ?_
      intro v3 h3 vc
      obtain ⟨hR3, vc⟩ := vc
      replace hR := hR3.trans hR
      refine go_iload_n (x := a2) dX11_man_49 rfl ?_
      refine go_icmp_ne 61 dX11_man_50 rfl (fun q => ?_) (fun q => ?_)
      · replace vc := vc.1 q
        refine go_aload_n (x := 0) dX11_man_61 rfl ?_
        refine go_getR (x := 6) dX11_man_62 f11_37 sh0 (fun _ _ => rfl) (rf0_3 hR) ?_
        refine gvV0 MX2_remember dX11_man_65 lX11_306 kX2_remember vX2_remember sh6 (by decide) rfl (Nat.le_of_ble_eq_true rfl) vc ?_
        intro h4 vc
        obtain ⟨hR4, vc⟩ := vc
        replace hR := hR4.trans hR
        refine go_aload_n (x := 0) dX11_man_68 rfl ?_
        refine go_getR (x := 6) dX11_man_69 f11_37 sh0 (fun _ _ => rfl) (rf0_3 hR) ?_
        refine go_iload_n (x := a1) dX11_man_72 rfl ?_
        refine go_iload_n (x := a2) dX11_man_73 rfl ?_
        refine gvV2 MX2_crew dX11_man_74 lX11_334 kX2_crew vX2_crew sh6 (by decide) rfl (Nat.le_of_ble_eq_true rfl) vc ?_
        intro h5 vc
        obtain ⟨hR5, vc⟩ := vc
        replace hR := hR5.trans hR
        refine go_iconst (v := 1) dX11_man_77 rfl ?_
        exact go_zret dX11_man_78 rfl (by decide) vc rfl (Nat.le_refl _) (Nat.le_refl _)
      · replace vc := vc.2 q
        refine go_aload_n (x := 0) dX11_man_53 rfl ?_
        refine go_iconst (v := 3) dX11_man_54 rfl ?_
        refine gvI1 MX11_refuse dX11_man_55 lX11_105 kX11_refuse vX11_refuse sh0 (by decide) rfl (Nat.le_of_ble_eq_true rfl) vc ?_
        intro v6 h6 vc
        obtain ⟨hR6, vc⟩ := vc
        replace hR := hR6.trans hR
        refine go_pop dX11_man_58 rfl ?_
        refine go_iconst (v := 0) dX11_man_59 rfl ?_
        exact go_zret dX11_man_60 rfl (by decide) vc rfl (Nat.le_refl _) (Nat.le_refl _)
    · replace vc := vc.2 q
      refine go_aload_n (x := lk) dX11_man_21 rfl ?_
      refine go_iload_n (x := a2) dX11_man_22 rfl ?_
      refine gvI1 MX4_isHand dX11_man_23 lX11_181 kX4_isHand vX4_isHand (slx hlk) (by decide) rfl (Nat.le_of_ble_eq_true rfl) vc ?_
      intro v7 h7 vc
      obtain ⟨hR7, vc⟩ := vc
      replace hR := hR7.trans hR
      refine go_if_eq 33 dX11_man_26 rfl (fun q => ?_) (fun q => ?_)
      · replace vc := vc.1 q
        refine go_iconst (v := 0) dX11_man_33 rfl ?_
        refine go_istore dX11_man_34 (Nat.le_of_ble_eq_true rfl) ?_
        show gg p l e s m args below meth c G (d + 1) MX11_man Q 36 [some (.ref 0), some (.int a1), some (.int a2), some (.ref lk), some (.int 0)] [] h7
        refine go_iload (x := 0) dX11_man_36 rfl ?_
        refine go_if_eq 53 dX11_man_38 rfl (fun q => ?_) (fun q => absurd q (by decide))
        refine go_aload_n (x := 0) dX11_man_53 rfl ?_
        refine go_iconst (v := 3) dX11_man_54 rfl ?_
        refine gvI1 MX11_refuse dX11_man_55 lX11_105 kX11_refuse vX11_refuse sh0 (by decide) rfl (Nat.le_of_ble_eq_true rfl) vc ?_
        intro v8 h8 vc
        obtain ⟨hR8, vc⟩ := vc
        replace hR := hR8.trans hR
        refine go_pop dX11_man_58 rfl ?_
        refine go_iconst (v := 0) dX11_man_59 rfl ?_
        exact go_zret dX11_man_60 rfl (by decide) vc rfl (Nat.le_refl _) (Nat.le_refl _)
      · replace vc := vc.2 q
        refine go_iconst (v := 1) dX11_man_29 rfl ?_
        refine go_goto 34 dX11_man_30 rfl ?_
        refine go_istore dX11_man_34 (Nat.le_of_ble_eq_true rfl) ?_
        show gg p l e s m args below meth c G (d + 1) MX11_man Q 36 [some (.ref 0), some (.int a1), some (.int a2), some (.ref lk), some (.int 1)] [] h7
        refine go_iload (x := 1) dX11_man_36 rfl ?_
        refine go_if_eq 53 dX11_man_38 rfl (fun q => absurd q (by decide)) (fun q => ?_)
        refine go_aload_n (x := 0) dX11_man_41 rfl ?_
        refine go_getR (x := 6) dX11_man_42 f11_37 sh0 (fun _ _ => rfl) (rf0_3 hR) ?_
        refine go_iload_n (x := a1) dX11_man_45 rfl ?_
        refine gvI1 MX2_handOf dX11_man_46 lX11_196 kX2_handOf vX2_handOf sh6 (by decide) rfl (Nat.le_of_ble_eq_true rfl) vc ?_
        intro v9 h9 vc
        obtain ⟨hR9, vc⟩ := vc
        replace hR := hR9.trans hR
        refine go_iload_n (x := a2) dX11_man_49 rfl ?_
        refine go_icmp_ne 61 dX11_man_50 rfl (fun q => ?_) (fun q => ?_)
        · replace vc := vc.1 q
          refine go_aload_n (x := 0) dX11_man_61 rfl ?_
          refine go_getR (x := 6) dX11_man_62 f11_37 sh0 (fun _ _ => rfl) (rf0_3 hR) ?_
          refine gvV0 MX2_remember dX11_man_65 lX11_306 kX2_remember vX2_remember sh6 (by decide) rfl (Nat.le_of_ble_eq_true rfl) vc ?_
          intro h10 vc
          obtain ⟨hR10, vc⟩ := vc
          replace hR := hR10.trans hR
          refine go_aload_n (x := 0) dX11_man_68 rfl ?_
          refine go_getR (x := 6) dX11_man_69 f11_37 sh0 (fun _ _ => rfl) (rf0_3 hR) ?_
          refine go_iload_n (x := a1) dX11_man_72 rfl ?_
          refine go_iload_n (x := a2) dX11_man_73 rfl ?_
          refine gvV2 MX2_crew dX11_man_74 lX11_334 kX2_crew vX2_crew sh6 (by decide) rfl (Nat.le_of_ble_eq_true rfl) vc ?_
          intro h11 vc
          obtain ⟨hR11, vc⟩ := vc
          replace hR := hR11.trans hR
          refine go_iconst (v := 1) dX11_man_77 rfl ?_
          exact go_zret dX11_man_78 rfl (by decide) vc rfl (Nat.le_refl _) (Nat.le_refl _)
        · replace vc := vc.2 q
          refine go_aload_n (x := 0) dX11_man_53 rfl ?_
          refine go_iconst (v := 3) dX11_man_54 rfl ?_
          refine gvI1 MX11_refuse dX11_man_55 lX11_105 kX11_refuse vX11_refuse sh0 (by decide) rfl (Nat.le_of_ble_eq_true rfl) vc ?_
          intro v12 h12 vc
          obtain ⟨hR12, vc⟩ := vc
          replace hR := hR12.trans hR
          refine go_pop dX11_man_58 rfl ?_
          refine go_iconst (v := 0) dX11_man_59 rfl ?_
          exact go_zret dX11_man_60 rfl (by decide) vc rfl (Nat.le_refl _) (Nat.le_refl _)
set_option maxRecDepth 20000 in
theorem wX11_hours_0 {p : Program} {l : Launch} {e : Env} {s : State} {m : MethodId} {args : Array Value} {below : List Frame} {meth : Method} {c : Code} {G : gG} {d : Nat} {Q : Option Value → gH → Prop} {h : gH} {lk sp : Nat} {cd : Option Nat} {a1 : Int32} (hR : h.2.2 = gRF lk sp cd) (hlk : lk = 30 ∨ lk = 67) (hsp : sp = 30 ∨ sp = 67)  (vc : gC l G d MX11_canPass [.ref 0, .int a1, .int 200] h (rI fun v1 h1 => h1.2.2 = (h).2.2 ∧ ((¬ v1 = 0 → gC l G d MX2_remember [.ref 6] h1 (rV fun h2 => h2.2.2 = (h1).2.2 ∧ gC l G d MX2_passHours [.ref 6, .int a1] h2 (rV fun h3 => h3.2.2 = (h2).2.2 ∧ gC l G d MX2_hour [.ref 6] h3 (rI fun v4 h4 => h4.2.2 = (h3).2.2 ∧ gC l G d MX4_skyAt [.ref lk, .int v4] h4 (rI fun v5 h5 => h5.2.2 = (h4).2.2 ∧ Q (some (.int v5)) h5))))) ∧ (v1 = 0 → gC l G d MX11_refuse [.ref 0, .int 3] h1 (rI fun v6 h6 => h6.2.2 = (h1).2.2 ∧ Q (some (.int v6)) h6))))) : gg p l e s m args below meth c G (d + 1) MX11_hours Q 0 [some (.ref 0), some (.int a1)] [] h := by
  refine go_aload_n (x := 0) dX11_hours_0 rfl ?_
  refine go_iload_n (x := a1) dX11_hours_1 rfl ?_
  refine go_sipush (v := 200) dX11_hours_2 rfl ?_
  refine gvI2 MX11_canPass dX11_hours_5 lX11_337 kX11_canPass vX11_canPass sh0 (by decide) rfl (Nat.le_of_ble_eq_true rfl) vc ?_
  intro v1 h1 vc
  obtain ⟨hR1, vc⟩ := vc
  replace hR := hR1.trans hR
  refine go_if_ne 17 dX11_hours_8 rfl (fun q => ?_) (fun q => ?_)
  · replace vc := vc.1 q
    refine go_aload_n (x := 0) dX11_hours_17 rfl ?_
    refine go_getR (x := 6) dX11_hours_18 f11_37 sh0 (fun _ _ => rfl) (rf0_3 hR) ?_
    refine gvV0 MX2_remember dX11_hours_21 lX11_306 kX2_remember vX2_remember sh6 (by decide) rfl (Nat.le_of_ble_eq_true rfl) vc ?_
    intro h2 vc
    obtain ⟨hR2, vc⟩ := vc
    replace hR := hR2.trans hR
    refine go_aload_n (x := 0) dX11_hours_24 rfl ?_
    refine go_getR (x := 6) dX11_hours_25 f11_37 sh0 (fun _ _ => rfl) (rf0_3 hR) ?_
    refine go_iload_n (x := a1) dX11_hours_28 rfl ?_
    refine gvV1 MX2_passHours dX11_hours_29 lX11_340 kX2_passHours vX2_passHours sh6 (by decide) rfl (Nat.le_of_ble_eq_true rfl) vc ?_
    intro h3 vc
    obtain ⟨hR3, vc⟩ := vc
    replace hR := hR3.trans hR
    refine go_aload_n (x := 0) dX11_hours_32 rfl ?_
    refine go_getR (x := 29) dX11_hours_33 f11_49 sh0 (fun _ _ => rfl) (rf0_4 hR) ?_
    refine go_getR (x := lk) dX11_hours_36 f11_117 sh29 (fun _ _ => rfl) (rf29_2 hR) ?_
    refine go_aload_n (x := 0) dX11_hours_39 rfl ?_
    refine go_getR (x := 6) dX11_hours_40 f11_37 sh0 (fun _ _ => rfl) (rf0_3 hR) ?_
    refine gvI0 MX2_hour dX11_hours_43 lX11_148 kX2_hour vX2_hour sh6 (by decide) rfl (Nat.le_of_ble_eq_true rfl) vc ?_
    intro v4 h4 vc
    obtain ⟨hR4, vc⟩ := vc
    replace hR := hR4.trans hR
    refine gvI1 MX4_skyAt dX11_hours_46 lX11_152 kX4_skyAt vX4_skyAt (slx hlk) (by decide) rfl (Nat.le_of_ble_eq_true rfl) vc ?_
    intro v5 h5 vc
    obtain ⟨hR5, vc⟩ := vc
    replace hR := hR5.trans hR
    exact go_iret dX11_hours_49 rfl vc rfl (Nat.le_refl _) (Nat.le_refl _)
  · replace vc := vc.2 q
    refine go_aload_n (x := 0) dX11_hours_11 rfl ?_
    refine go_iconst (v := 3) dX11_hours_12 rfl ?_
    refine gvI1 MX11_refuse dX11_hours_13 lX11_105 kX11_refuse vX11_refuse sh0 (by decide) rfl (Nat.le_of_ble_eq_true rfl) vc ?_
    intro v6 h6 vc
    obtain ⟨hR6, vc⟩ := vc
    replace hR := hR6.trans hR
    exact go_iret dX11_hours_16 rfl vc rfl (Nat.le_refl _) (Nat.le_refl _)
