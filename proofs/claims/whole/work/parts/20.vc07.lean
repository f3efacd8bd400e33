set_option maxRecDepth 20000 in
theorem wX12_asksSign_0 {p : Program} {l : Launch} {e : Env} {s : State} {m : MethodId} {args : Array Value} {below : List Frame} {meth : Method} {c : Code} {G : gG} {d : Nat} {Q : Option Value → gH → Prop} {h : gH} {lk sp : Nat} {cd : Option Nat} {a1 : Int32} (hR : h.2.2 = gRF lk sp cd) (hlk : lk = 30 ∨ lk = 67) (hsp : sp = 30 ∨ sp = 67)  (vc : ((¬ (h.1 82 5) = 0 → Q none h) ∧ ((h.1 82 5) = 0 → gC l G d MX12_takesSign [.ref 82, .int a1] h (rI fun v1 h1 => h1.2.2 = (h).2.2 ∧ ((¬ v1 = 0 → Q none h1) ∧ (v1 = 0 → gC l G d MX12_fail [.ref 82, .int 1, .int (h1.1 82 2)] h1 (rV fun h2 => h2.2.2 = (h1).2.2 ∧ Q none h2))))))) : gg p l e s m args below meth c G (d + 1) MX12_asksSign Q 0 [some (.ref 82), some (.int a1)] [] h := by
  refine go_aload_n (x := 82) dX12_asksSign_0 rfl ?_
  refine go_getI' (v := (h.1 82 5)) dX12_asksSign_1 f12_278 sh82 (fun _ _ => rfl) rfl ?_
  refine go_if_ne 24 dX12_asksSign_4 rfl (fun q => ?_) (fun q => ?_)
  · replace vc := vc.1 q
    exact go_vret dX12_asksSign_24 rfl vc rfl (Nat.le_refl _) (Nat.le_refl _)
  · replace vc := vc.2 q
    refine go_aload_n (x := 82) dX12_asksSign_7 rfl ?_
    refine go_iload_n (x := a1) dX12_asksSign_8 rfl ?_
    refine gvI1 MX12_takesSign dX12_asksSign_9 lX12_312 kX12_takesSign vX12_takesSign sh82 (by decide) rfl (Nat.le_of_ble_eq_true rfl) vc ?_
    intro v1 h1 vc
    obtain ⟨hR1, vc⟩ := vc
    replace hR := hR1.trans hR
    refine go_if_ne 24 dX12_asksSign_12 rfl (fun q => ?_) (fun q => ?_)
    · replace vc := vc.1 q
      exact go_vret dX12_asksSign_24 rfl vc rfl (Nat.le_refl _) (Nat.le_refl _)
    · replace vc := vc.2 q
      refine go_aload_n (x := 82) dX12_asksSign_15 rfl ?_
      refine go_iconst (v := 1) dX12_asksSign_16 rfl ?_
      refine go_aload_n (x := 82) dX12_asksSign_17 rfl ?_
      refine go_getI' (v := (h1.1 82 2)) dX12_asksSign_18 f12_284 sh82 (fun _ _ => rfl) rfl ?_
      refine gvV2 MX12_fail dX12_asksSign_21 lX12_308 kX12_fail vX12_fail sh82 (by decide) rfl (Nat.le_of_ble_eq_true rfl) vc ?_
      intro h2 vc
      obtain ⟨hR2, vc⟩ := vc
      replace hR := hR2.trans hR
      exact go_vret dX12_asksSign_24 rfl vc rfl (Nat.le_refl _) (Nat.le_refl _)
set_option maxRecDepth 20000 in
theorem wX12_number_0 {p : Program} {l : Launch} {e : Env} {s : State} {m : MethodId} {args : Array Value} {below : List Frame} {meth : Method} {c : Code} {G : gG} {d : Nat} {Q : Option Value → gH → Prop} {h : gH} {lk sp : Nat} {cd : Option Nat} {a1 : Int32} {a2 : Int32} (hR : h.2.2 = gRF lk sp cd) (hlk : lk = 30 ∨ lk = 67) (hsp : sp = 30 ∨ sp = 67)  (vc : (((h.1 82 5) = 0 → gC l G d MX12_look [.ref 82] h (rI fun v1 h1 => h1.2.2 = (h).2.2 ∧ gC l G d MX12_isDigit [.int v1] h1 (rI fun v2 h2 => h2.2.2 = (h1).2.2 ∧ ((v2 = 0 → gC l G d MX12_fail [.ref 82, .int 1, .int (h2.1 82 2)] h2 (rV fun h3 => h3.2.2 = (h2).2.2 ∧ Q (some (.int 0)) h3)) ∧ (¬ v2 = 0 → ((¬ (h2.1 82 2) = (h2.1 82 4) → gg p l e s m args below meth c G (d + 1) MX12_number Q 49 [some (.ref 82), some (.int a1), some (.int a2), some (.int (h2.1 82 2)), some (.int 0)] [] h2) ∧ ((h2.1 82 2) = (h2.1 82 4) → gC l G d MX12_fail [.ref 82, .int 1, .int (h2.1 82 2)] h2 (rV fun h4 => h4.2.2 = (h2).2.2 ∧ Q (some (.int 0)) h4)))))))) ∧ (¬ (h.1 82 5) = 0 → Q (some (.int 0)) h))) : gg p l e s m args below meth c G (d + 1) MX12_number Q 0 [some (.ref 82), some (.int a1), some (.int a2), none, none] [] h := by
  refine go_aload_n (x := 82) dX12_number_0 rfl ?_
  refine go_getI' (v := (h.1 82 5)) dX12_number_1 f12_278 sh82 (fun _ _ => rfl) rfl ?_
  refine go_if_eq 9 dX12_number_4 rfl (fun q => ?_) (fun q => ?_)
  · replace vc := vc.1 q
    refine go_aload_n (x := 82) dX12_number_9 rfl ?_
    refine gvI0 MX12_look dX12_number_10 lX12_290 kX12_look vX12_look sh82 (by decide) rfl (Nat.le_of_ble_eq_true rfl) vc ?_
    intro v1 h1 vc
    obtain ⟨hR1, vc⟩ := vc
    replace hR := hR1.trans hR
    refine gsI1 MX12_isDigit dX12_number_13 lX12_315 kX12_isDigit sX12_isDigit (Nat.le_of_ble_eq_true rfl) vc ?_
    intro v2 h2 vc
    obtain ⟨hR2, vc⟩ := vc
    replace hR := hR2.trans hR
    refine go_if_eq 30 dX12_number_16 rfl (fun q => ?_) (fun q => ?_)
    · replace vc := vc.1 q
      refine go_aload_n (x := 82) dX12_number_30 rfl ?_
      refine go_iconst (v := 1) dX12_number_31 rfl ?_
      refine go_aload_n (x := 82) dX12_number_32 rfl ?_
      refine go_getI' (v := (h2.1 82 2)) dX12_number_33 f12_284 sh82 (fun _ _ => rfl) rfl ?_
      refine gvV2 MX12_fail dX12_number_36 lX12_308 kX12_fail vX12_fail sh82 (by decide) rfl (Nat.le_of_ble_eq_true rfl) vc ?_
      intro h3 vc
      obtain ⟨hR3, vc⟩ := vc
      replace hR := hR3.trans hR
      refine go_iconst (v := 0) dX12_number_39 rfl ?_
      exact go_iret dX12_number_40 rfl vc rfl (Nat.le_refl _) (Nat.le_refl _)
    · replace vc := vc.2 q
      refine go_aload_n (x := 82) dX12_number_19 rfl ?_
      refine go_getI' (v := (h2.1 82 2)) dX12_number_20 f12_284 sh82 (fun _ _ => rfl) rfl ?_
      refine go_aload_n (x := 82) dX12_number_23 rfl ?_
      refine go_getI' (v := (h2.1 82 4)) dX12_number_24 f12_298 sh82 (fun _ _ => rfl) rfl ?_
      refine go_icmp_ne 41 dX12_number_27 rfl (fun q => ?_) (fun q => ?_)
      · replace vc := vc.1 q
        refine go_aload_n (x := 82) dX12_number_41 rfl ?_
        refine go_getI' (v := (h2.1 82 2)) dX12_number_42 f12_284 sh82 (fun _ _ => rfl) rfl ?_
        refine go_istore_n dX12_number_45 (Nat.le_of_ble_eq_true rfl) ?_
        show gg p l e s m args below meth c G (d + 1) MX12_number Q 46 [some (.ref 82), some (.int a1), some (.int a2), some (.int (h2.1 82 2)), none] [] h2
        refine go_iconst (v := 0) dX12_number_46 rfl ?_
        refine go_istore dX12_number_47 (Nat.le_of_ble_eq_true rfl) ?_
        show gg p l e s m args below meth c G (d + 1) MX12_number Q 49 [some (.ref 82), some (.int a1), some (.int a2), some (.int (h2.1 82 2)), some (.int 0)] [] h2
        exact vc
      · replace vc := vc.2 q
        refine go_aload_n (x := 82) dX12_number_30 rfl ?_
        refine go_iconst (v := 1) dX12_number_31 rfl ?_
        refine go_aload_n (x := 82) dX12_number_32 rfl ?_
        refine go_getI' (v := (h2.1 82 2)) dX12_number_33 f12_284 sh82 (fun _ _ => rfl) rfl ?_
        refine gvV2 MX12_fail dX12_number_36 lX12_308 kX12_fail vX12_fail sh82 (by decide) rfl (Nat.le_of_ble_eq_true rfl) vc ?_
        intro h4 vc
        obtain ⟨hR4, vc⟩ := vc
        replace hR := hR4.trans hR
        refine go_iconst (v := 0) dX12_number_39 rfl ?_
        exact go_iret dX12_number_40 rfl vc rfl (Nat.le_refl _) (Nat.le_refl _)
  · replace vc := vc.2 q
    refine go_iconst (v := 0) dX12_number_7 rfl ?_
    exact go_iret dX12_number_8 rfl vc rfl (Nat.le_refl _) (Nat.le_refl _)
set_option maxRecDepth 20000 in
theorem wX12_number_49 {p : Program} {l : Launch} {e : Env} {s : State} {m : MethodId} {args : Array Value} {below : List Frame} {meth : Method} {c : Code} {G : gG} {d : Nat} {Q : Option Value → gH → Prop} {h : gH} {lk sp : Nat} {cd : Option Nat} {x1 : Int32} {x2 : Int32} {x3 : Int32} {x4 : Int32} (hR : h.2.2 = gRF lk sp cd) (hlk : lk = 30 ∨ lk = 67) (hsp : sp = 30 ∨ sp = 67)  (vc : (((h.1 82 3) ≤ (h.1 82 2) → gC l G d MX12_isIn [.long (x4 : Int32).toInt64, .long (x1 : Int32).toInt64, .long (x2 : Int32).toInt64] (sI (sI h 82 4 (h.1 82 2)) 82 10 x3) (rI fun v1 h1 => h1.2.2 = ((sI (sI h 82 4 (h.1 82 2)) 82 10 x3)).2.2 ∧ ((¬ v1 = 0 → Q (some (.int x4)) h1) ∧ (v1 = 0 → gC l G d MX12_fail [.ref 82, .int 2, .int x3] h1 (rV fun h2 => h2.2.2 = (h1).2.2 ∧ Q (some (.int x4)) h2))))) ∧ (¬ (h.1 82 3) ≤ (h.1 82 2) → (vp_in ((h.1 82 2)) 1600 ∧ gC l G d MX12_isDigit [.int (h.1 83 ((h.1 82 2) : Int32).toNatClampNeg)] h (rI fun v3 h3 => h3.2.2 = (h).2.2 ∧ ((v3 = 0 → gC l G d MX12_isIn [.long (x4 : Int32).toInt64, .long (x1 : Int32).toInt64, .long (x2 : Int32).toInt64] (sI (sI h3 82 4 (h3.1 82 2)) 82 10 x3) (rI fun v4 h4 => h4.2.2 = ((sI (sI h3 82 4 (h3.1 82 2)) 82 10 x3)).2.2 ∧ ((¬ v4 = 0 → Q (some (.int x4)) h4) ∧ (v4 = 0 → gC l G d MX12_fail [.ref 82, .int 2, .int x3] h4 (rV fun h5 => h5.2.2 = (h4).2.2 ∧ Q (some (.int x4)) h5))))) ∧ (¬ v3 = 0 → ((¬ ((h3.1 82 2) - x3) = 4 → (vp_in ((h3.1 82 2)) 1600 ∧ gg p l e s m args below meth c G (d + 1) MX12_number Q 49 [some (.ref 82), some (.int x1), some (.int x2), some (.int x3), some (.int (((10 * x4) + (h3.1 83 ((h3.1 82 2) : Int32).toNatClampNeg)) - 48))] [] (sI h3 82 2 ((h3.1 82 2) + 1)))) ∧ (((h3.1 82 2) - x3) = 4 → gC l G d MX12_fail [.ref 82, .int 1, .int (h3.1 82 2)] h3 (rV fun h6 => h6.2.2 = (h3).2.2 ∧ Q (some (.int 0)) h6)))))))))) : gg p l e s m args below meth c G (d + 1) MX12_number Q 49 [some (.ref 82), some (.int x1), some (.int x2), some (.int x3), some (.int x4)] [] h := by
  refine go_aload_n (x := 82) dX12_number_49 rfl ?_
  refine go_getI' (v := (h.1 82 2)) dX12_number_50 f12_284 sh82 (fun _ _ => rfl) rfl ?_
  refine go_aload_n (x := 82) dX12_number_53 rfl ?_
  refine go_getI' (v := (h.1 82 3)) dX12_number_54 f12_287 sh82 (fun _ _ => rfl) rfl ?_
  refine go_icmp_ge 129 dX12_number_57 rfl (fun q => ?_) (fun q => ?_)
  · replace vc := vc.1 q
    refine go_aload_n (x := 82) dX12_number_129 rfl ?_
    refine go_aload_n (x := 82) dX12_number_130 rfl ?_
    refine go_getI' (v := (h.1 82 2)) dX12_number_131 f12_284 sh82 (fun _ _ => rfl) rfl ?_
    refine go_putI dX12_number_134 f12_298 sh82 rfl rfl ?_
    refine go_aload_n (x := 82) dX12_number_137 rfl ?_
    refine go_iload_n (x := x3) dX12_number_138 rfl ?_
    refine go_putI dX12_number_139 f12_318 sh82 rfl rfl ?_
    refine go_iload (x := x4) dX12_number_142 rfl ?_
    refine go_i2l dX12_number_144 ?_
    refine go_iload_n (x := x1) dX12_number_145 rfl ?_
    refine go_i2l dX12_number_146 ?_
    refine go_iload_n (x := x2) dX12_number_147 rfl ?_
    refine go_i2l dX12_number_148 ?_
    refine gsI3 MX12_isIn dX12_number_149 lX12_321 kX12_isIn sX12_isIn (Nat.le_of_ble_eq_true rfl) vc ?_
    intro v1 h1 vc
    obtain ⟨hR1, vc⟩ := vc
    replace hR := hR1.trans hR
    refine go_if_ne 161 dX12_number_152 rfl (fun q => ?_) (fun q => ?_)
    · replace vc := vc.1 q
      refine go_iload (x := x4) dX12_number_161 rfl ?_
      exact go_iret dX12_number_163 rfl vc rfl (Nat.le_refl _) (Nat.le_refl _)
    · replace vc := vc.2 q
      refine go_aload_n (x := 82) dX12_number_155 rfl ?_
      refine go_iconst (v := 2) dX12_number_156 rfl ?_
      refine go_iload_n (x := x3) dX12_number_157 rfl ?_
      refine gvV2 MX12_fail dX12_number_158 lX12_308 kX12_fail vX12_fail sh82 (by decide) rfl (Nat.le_of_ble_eq_true rfl) vc ?_
      intro h2 vc
      obtain ⟨hR2, vc⟩ := vc
      replace hR := hR2.trans hR
      refine go_iload (x := x4) dX12_number_161 rfl ?_
      exact go_iret dX12_number_163 rfl vc rfl (Nat.le_refl _) (Nat.le_refl _)
  · replace vc := vc.2 q
    refine go_aload_n (x := 82) dX12_number_60 rfl ?_
    refine go_getR (x := 83) dX12_number_61 f12_7 sh82 (fun _ _ => rfl) (rf82_0 hR) ?_
    refine go_aload_n (x := 82) dX12_number_64 rfl ?_
    refine go_getI' (v := (h.1 82 2)) dX12_number_65 f12_284 sh82 (fun _ _ => rfl) rfl ?_
    refine go_iald' (v := (h.1 83 ((h.1 82 2) : Int32).toNatClampNeg)) dX12_number_68 sh83 vc.1 rfl ?_
    have vc := vc.2
    refine gsI1 MX12_isDigit dX12_number_69 lX12_315 kX12_isDigit sX12_isDigit (Nat.le_of_ble_eq_true rfl) vc ?_
    intro v3 h3 vc
    obtain ⟨hR3, vc⟩ := vc
    replace hR := hR3.trans hR
    refine go_if_eq 129 dX12_number_72 rfl (fun q => ?_) (fun q => ?_)
    · replace vc := vc.1 q
      refine go_aload_n (x := 82) dX12_number_129 rfl ?_
      refine go_aload_n (x := 82) dX12_number_130 rfl ?_
      refine go_getI' (v := (h3.1 82 2)) dX12_number_131 f12_284 sh82 (fun _ _ => rfl) rfl ?_
      refine go_putI dX12_number_134 f12_298 sh82 rfl rfl ?_
      refine go_aload_n (x := 82) dX12_number_137 rfl ?_
      refine go_iload_n (x := x3) dX12_number_138 rfl ?_
      refine go_putI dX12_number_139 f12_318 sh82 rfl rfl ?_
      refine go_iload (x := x4) dX12_number_142 rfl ?_
      refine go_i2l dX12_number_144 ?_
      refine go_iload_n (x := x1) dX12_number_145 rfl ?_
      refine go_i2l dX12_number_146 ?_
      refine go_iload_n (x := x2) dX12_number_147 rfl ?_
      refine go_i2l dX12_number_148 ?_
      refine gsI3 MX12_isIn dX12_number_149 lX12_321 kX12_isIn sX12_isIn (Nat.le_of_ble_eq_true rfl) vc ?_
      intro v4 h4 vc
      obtain ⟨hR4, vc⟩ := vc
      replace hR := hR4.trans hR
      refine go_if_ne 161 dX12_number_152 rfl (fun q => ?_) (fun q => ?_)
      · replace vc := vc.1 q
        refine go_iload (x := x4) dX12_number_161 rfl ?_
        exact go_iret dX12_number_163 rfl vc rfl (Nat.le_refl _) (Nat.le_refl _)
      · replace vc := vc.2 q
        refine go_aload_n (x := 82) dX12_number_155 rfl ?_
        refine go_iconst (v := 2) dX12_number_156 rfl ?_
        refine go_iload_n (x := x3) dX12_number_157 rfl ?_
        refine gvV2 MX12_fail dX12_number_158 lX12_308 kX12_fail vX12_fail sh82 (by decide) rfl (Nat.le_of_ble_eq_true rfl) vc ?_
        intro h5 vc
        obtain ⟨hR5, vc⟩ := vc
        replace hR := hR5.trans hR
        refine go_iload (x := x4) dX12_number_161 rfl ?_
        exact go_iret dX12_number_163 rfl vc rfl (Nat.le_refl _) (Nat.le_refl _)
    · replace vc := vc.2 q
      refine go_aload_n (x := 82) dX12_number_75 rfl ?_
      refine go_getI' (v := (h3.1 82 2)) dX12_number_76 f12_284 sh82 (fun _ _ => rfl) rfl ?_
      refine go_iload_n (x := x3) dX12_number_79 rfl ?_
      refine go_isub dX12_number_80 ?_
      refine go_iconst (v := 4) dX12_number_81 rfl ?_
      refine go_icmp_ne 96 dX12_number_82 rfl (fun q => ?_) (fun q => ?_)
      · replace vc := vc.1 q
        refine go_bipush (v := 10) dX12_number_96 rfl ?_
        refine go_iload (x := x4) dX12_number_98 rfl ?_
        refine go_imul dX12_number_100 ?_
        refine go_aload_n (x := 82) dX12_number_101 rfl ?_
        refine go_getR (x := 83) dX12_number_102 f12_7 sh82 (fun _ _ => rfl) (rf82_0 hR) ?_
        refine go_aload_n (x := 82) dX12_number_105 rfl ?_
        refine go_getI' (v := (h3.1 82 2)) dX12_number_106 f12_284 sh82 (fun _ _ => rfl) rfl ?_
        refine go_iald' (v := (h3.1 83 ((h3.1 82 2) : Int32).toNatClampNeg)) dX12_number_109 sh83 vc.1 rfl ?_
        have vc := vc.2
        refine go_iadd dX12_number_110 ?_
        refine go_bipush (v := 48) dX12_number_111 rfl ?_
        refine go_isub dX12_number_113 ?_
        refine go_istore dX12_number_114 (Nat.le_of_ble_eq_true rfl) ?_
        show gg p l e s m args below meth c G (d + 1) MX12_number Q 116 [some (.ref 82), some (.int x1), some (.int x2), some (.int x3), some (.int (((10 * x4) + (h3.1 83 ((h3.1 82 2) : Int32).toNatClampNeg)) - 48))] [] h3
        refine go_aload_n (x := 82) dX12_number_116 rfl ?_
        refine go_dup dX12_number_117 rfl ?_
        refine go_getI' (v := (h3.1 82 2)) dX12_number_118 f12_284 sh82 (fun _ _ => rfl) rfl ?_
        refine go_iconst (v := 1) dX12_number_121 rfl ?_
        refine go_iadd dX12_number_122 ?_
        refine go_putI dX12_number_123 f12_284 sh82 rfl rfl ?_
        refine go_goto 49 dX12_number_126 rfl ?_
        exact vc
      · replace vc := vc.2 q
        refine go_aload_n (x := 82) dX12_number_85 rfl ?_
        refine go_iconst (v := 1) dX12_number_86 rfl ?_
        refine go_aload_n (x := 82) dX12_number_87 rfl ?_
        refine go_getI' (v := (h3.1 82 2)) dX12_number_88 f12_284 sh82 (fun _ _ => rfl) rfl ?_
        refine gvV2 MX12_fail dX12_number_91 lX12_308 kX12_fail vX12_fail sh82 (by decide) rfl (Nat.le_of_ble_eq_true rfl) vc ?_
        intro h6 vc
        obtain ⟨hR6, vc⟩ := vc
        replace hR := hR6.trans hR
        refine go_iconst (v := 0) dX12_number_94 rfl ?_
        exact go_iret dX12_number_95 rfl vc rfl (Nat.le_refl _) (Nat.le_refl _)
set_option maxRecDepth 20000 in
theorem wX12_isOwnHere_0 {p : Program} {l : Launch} {e : Env} {s : State} {m : MethodId} {args : Array Value} {below : List Frame} {meth : Method} {c : Code} {G : gG} {d : Nat} {Q : Option Value → gH → Prop} {h : gH} {lk sp : Nat} {cd : Option Nat}  (hR : h.2.2 = gRF lk sp cd) (hlk : lk = 30 ∨ lk = 67) (hsp : sp = 30 ∨ sp = 67)  (vc : gC l G d MX12_isHere [.ref 82, .ref 85] h (rI fun v1 h1 => h1.2.2 = (h).2.2 ∧ ((¬ v1 = 0 → gg p l e s m args below meth c G (d + 1) MX12_isOwnHere Q 66 [some (.ref 82), none] [] h1) ∧ (v1 = 0 → gC l G d MX12_isHere [.ref 82, .ref 86] h1 (rI fun v2 h2 => h2.2.2 = (h1).2.2 ∧ ((¬ v2 = 0 → gg p l e s m args below meth c G (d + 1) MX12_isOwnHere Q 66 [some (.ref 82), none] [] h2) ∧ (v2 = 0 → gC l G d MX12_isHere [.ref 82, .ref 87] h2 (rI fun v3 h3 => h3.2.2 = (h2).2.2 ∧ ((¬ v3 = 0 → gg p l e s m args below meth c G (d + 1) MX12_isOwnHere Q 66 [some (.ref 82), none] [] h3) ∧ (v3 = 0 → gC l G d MX12_isHere [.ref 82, .ref 88] h3 (rI fun v4 h4 => h4.2.2 = (h3).2.2 ∧ ((¬ v4 = 0 → gg p l e s m args below meth c G (d + 1) MX12_isOwnHere Q 66 [some (.ref 82), none] [] h4) ∧ (v4 = 0 → gC l G d MX12_isHere [.ref 82, .ref 89] h4 (rI fun v5 h5 => h5.2.2 = (h4).2.2 ∧ ((¬ v5 = 0 → gg p l e s m args below meth c G (d + 1) MX12_isOwnHere Q 66 [some (.ref 82), none] [] h5) ∧ (v5 = 0 → gC l G d MX12_isHere [.ref 82, .ref 90] h5 (rI fun v6 h6 => h6.2.2 = (h5).2.2 ∧ ((v6 = 0 → gg p l e s m args below meth c G (d + 1) MX12_isOwnHere Q 71 [some (.ref 82), none] [.int 0] h6) ∧ (¬ v6 = 0 → gg p l e s m args below meth c G (d + 1) MX12_isOwnHere Q 66 [some (.ref 82), none] [] h6))))))))))))))))))) : gg p l e s m args below meth c G (d + 1) MX12_isOwnHere Q 0 [some (.ref 82), none] [] h := by
  refine go_aload_n (x := 82) dX12_isOwnHere_0 rfl ?_
  refine go_aload_n (x := 82) dX12_isOwnHere_1 rfl ?_
  refine go_getR (x := 85) dX12_isOwnHere_2 f12_20 sh82 (fun _ _ => rfl) (rf82_11 hR) ?_
  refine gvI1 MX12_isHere dX12_isOwnHere_5 lX12_301 kX12_isHere vX12_isHere sh82 (by decide) rfl (Nat.le_of_ble_eq_true rfl) vc ?_
  intro v1 h1 vc
  obtain ⟨hR1, vc⟩ := vc
  replace hR := hR1.trans hR
  refine go_if_ne 66 dX12_isOwnHere_8 rfl (fun q => ?_) (fun q => ?_)
  · replace vc := vc.1 q
    exact vc
  · replace vc := vc.2 q
    refine go_aload_n (x := 82) dX12_isOwnHere_11 rfl ?_
    refine go_aload_n (x := 82) dX12_isOwnHere_12 rfl ?_
    refine go_getR (x := 86) dX12_isOwnHere_13 f12_24 sh82 (fun _ _ => rfl) (rf82_12 hR) ?_
    refine gvI1 MX12_isHere dX12_isOwnHere_16 lX12_301 kX12_isHere vX12_isHere sh82 (by decide) rfl (Nat.le_of_ble_eq_true rfl) vc ?_
    intro v2 h2 vc
    obtain ⟨hR2, vc⟩ := vc
    replace hR := hR2.trans hR
    refine go_if_ne 66 dX12_isOwnHere_19 rfl (fun q => ?_) (fun q => ?_)
    · replace vc := vc.1 q
      exact vc
    · replace vc := vc.2 q
      refine go_aload_n (x := 82) dX12_isOwnHere_22 rfl ?_
      refine go_aload_n (x := 82) dX12_isOwnHere_23 rfl ?_
      refine go_getR (x := 87) dX12_isOwnHere_24 f12_27 sh82 (fun _ _ => rfl) (rf82_13 hR) ?_
      refine gvI1 MX12_isHere dX12_isOwnHere_27 lX12_301 kX12_isHere vX12_isHere sh82 (by decide) rfl (Nat.le_of_ble_eq_true rfl) vc ?_
      intro v3 h3 vc
      obtain ⟨hR3, vc⟩ := vc
      replace hR := hR3.trans hR
      refine go_if_ne 66 dX12_isOwnHere_30 rfl (fun q => ?_) (fun q => ?_)
      · replace vc := vc.1 q
        exact vc
      · replace vc := vc.2 q
        refine go_aload_n (x := 82) dX12_isOwnHere_33 rfl ?_
        refine go_aload_n (x := 82) dX12_isOwnHere_34 rfl ?_
        refine go_getR (x := 88) dX12_isOwnHere_35 f12_30 sh82 (fun _ _ => rfl) (rf82_14 hR) ?_
        refine gvI1 MX12_isHere dX12_isOwnHere_38 lX12_301 kX12_isHere vX12_isHere sh82 (by decide) rfl (Nat.le_of_ble_eq_true rfl) vc ?_
        intro v4 h4 vc
        obtain ⟨hR4, vc⟩ := vc
        replace hR := hR4.trans hR
        refine go_if_ne 66 dX12_isOwnHere_41 rfl (fun q => ?_) (fun q => ?_)
        · replace vc := vc.1 q
          exact vc
        · replace vc := vc.2 q
          refine go_aload_n (x := 82) dX12_isOwnHere_44 rfl ?_
          refine go_aload_n (x := 82) dX12_isOwnHere_45 rfl ?_
          refine go_getR (x := 89) dX12_isOwnHere_46 f12_33 sh82 (fun _ _ => rfl) (rf82_15 hR) ?_
          refine gvI1 MX12_isHere dX12_isOwnHere_49 lX12_301 kX12_isHere vX12_isHere sh82 (by decide) rfl (Nat.le_of_ble_eq_true rfl) vc ?_
          intro v5 h5 vc
          obtain ⟨hR5, vc⟩ := vc
          replace hR := hR5.trans hR
          refine go_if_ne 66 dX12_isOwnHere_52 rfl (fun q => ?_) (fun q => ?_)
          · replace vc := vc.1 q
            exact vc
          · replace vc := vc.2 q
            refine go_aload_n (x := 82) dX12_isOwnHere_55 rfl ?_
            refine go_aload_n (x := 82) dX12_isOwnHere_56 rfl ?_
            refine go_getR (x := 90) dX12_isOwnHere_57 f12_36 sh82 (fun _ _ => rfl) (rf82_16 hR) ?_
            refine gvI1 MX12_isHere dX12_isOwnHere_60 lX12_301 kX12_isHere vX12_isHere sh82 (by decide) rfl (Nat.le_of_ble_eq_true rfl) vc ?_
            intro v6 h6 vc
            obtain ⟨hR6, vc⟩ := vc
            replace hR := hR6.trans hR
            refine go_if_eq 70 dX12_isOwnHere_63 rfl (fun q => ?_) (fun q => ?_)
            · replace vc := vc.1 q
              refine go_iconst (v := 0) dX12_isOwnHere_70 rfl ?_
              exact vc
            · replace vc := vc.2 q
              exact vc
set_option maxRecDepth 20000 in
theorem wX12_isOwnHere_66 {p : Program} {l : Launch} {e : Env} {s : State} {m : MethodId} {args : Array Value} {below : List Frame} {meth : Method} {c : Code} {G : gG} {d : Nat} {Q : Option Value → gH → Prop} {h : gH} {lk sp : Nat} {cd : Option Nat}  (hR : h.2.2 = gRF lk sp cd) (hlk : lk = 30 ∨ lk = 67) (hsp : sp = 30 ∨ sp = 67)  (vc : gg p l e s m args below meth c G (d + 1) MX12_isOwnHere Q 71 [some (.ref 82), none] [.int 1] h) : gg p l e s m args below meth c G (d + 1) MX12_isOwnHere Q 66 [some (.ref 82), none] [] h := by
  refine go_iconst (v := 1) dX12_isOwnHere_66 rfl ?_
  refine go_goto 71 dX12_isOwnHere_67 rfl ?_
  exact vc
set_option maxRecDepth 20000 in
theorem wX12_isOwnHere_71 {p : Program} {l : Launch} {e : Env} {s : State} {m : MethodId} {args : Array Value} {below : List Frame} {meth : Method} {c : Code} {G : gG} {d : Nat} {Q : Option Value → gH → Prop} {h : gH} {lk sp : Nat} {cd : Option Nat} {y0 : Int32} (hR : h.2.2 = gRF lk sp cd) (hlk : lk = 30 ∨ lk = 67) (hsp : sp = 30 ∨ sp = 67)  (vc : ((¬ y0 = 0 → gg p l e s m args below meth c G (d + 1) MX12_isOwnHere Q 142 [some (.ref 82), some (.int y0)] [] h) ∧ (y0 = 0 → gC l G d MX12_isHere [.ref 82, .ref 91] h (rI fun v1 h1 => h1.2.2 = (h).2.2 ∧ ((¬ v1 = 0 → gg p l e s m args below meth c G (d + 1) MX12_isOwnHere Q 142 [some (.ref 82), some (.int y0)] [] h1) ∧ (v1 = 0 → gC l G d MX12_isHere [.ref 82, .ref 92] h1 (rI fun v2 h2 => h2.2.2 = (h1).2.2 ∧ ((¬ v2 = 0 → gg p l e s m args below meth c G (d + 1) MX12_isOwnHere Q 142 [some (.ref 82), some (.int y0)] [] h2) ∧ (v2 = 0 → gC l G d MX12_isHere [.ref 82, .ref 93] h2 (rI fun v3 h3 => h3.2.2 = (h2).2.2 ∧ ((¬ v3 = 0 → gg p l e s m args below meth c G (d + 1) MX12_isOwnHere Q 142 [some (.ref 82), some (.int y0)] [] h3) ∧ (v3 = 0 → gC l G d MX12_isHere [.ref 82, .ref 94] h3 (rI fun v4 h4 => h4.2.2 = (h3).2.2 ∧ ((¬ v4 = 0 → gg p l e s m args below meth c G (d + 1) MX12_isOwnHere Q 142 [some (.ref 82), some (.int y0)] [] h4) ∧ (v4 = 0 → gC l G d MX12_isHere [.ref 82, .ref 95] h4 (rI fun v5 h5 => h5.2.2 = (h4).2.2 ∧ ((¬ v5 = 0 → gg p l e s m args below meth c G (d + 1) MX12_isOwnHere Q 142 [some (.ref 82), some (.int y0)] [] h5) ∧ (v5 = 0 → gC l G d MX12_isHere [.ref 82, .ref 96] h5 (rI fun v6 h6 => h6.2.2 = (h5).2.2 ∧ ((v6 = 0 → gg p l e s m args below meth c G (d + 1) MX12_isOwnHere Q 147 [some (.ref 82), some (.int y0)] [.int 0] h6) ∧ (¬ v6 = 0 → gg p l e s m args below meth c G (d + 1) MX12_isOwnHere Q 142 [some (.ref 82), some (.int y0)] [] h6))))))))))))))))))))) : gg p l e s m args below meth c G (d + 1) MX12_isOwnHere Q 71 [some (.ref 82), none] [.int y0] h := by
  refine go_istore_n dX12_isOwnHere_71 (Nat.le_of_ble_eq_true rfl) ?_
  show gg p l e s m args below meth c G (d + 1) MX12_isOwnHere Q 72 [some (.ref 82), some (.int y0)] [] h
  refine go_iload_n (x := y0) dX12_isOwnHere_72 rfl ?_
  refine go_if_ne 142 dX12_isOwnHere_73 rfl (fun q => ?_) (fun q => ?_)
  · replace vc := vc.1 q
    exact vc
  · replace vc := vc.2 q
    refine go_aload_n (x := 82) dX12_isOwnHere_76 rfl ?_
    refine go_aload_n (x := 82) dX12_isOwnHere_77 rfl ?_
    refine go_getR (x := 91) dX12_isOwnHere_78 f12_39 sh82 (fun _ _ => rfl) (rf82_17 hR) ?_
    refine gvI1 MX12_isHere dX12_isOwnHere_81 lX12_301 kX12_isHere vX12_isHere sh82 (by decide) rfl (Nat.le_of_ble_eq_true rfl) vc ?_
    intro v1 h1 vc
    obtain ⟨hR1, vc⟩ := vc
    replace hR := hR1.trans hR
    refine go_if_ne 142 dX12_isOwnHere_84 rfl (fun q => ?_) (fun q => ?_)
    · replace vc := vc.1 q
      exact vc
    · replace vc := vc.2 q
      refine go_aload_n (x := 82) dX12_isOwnHere_87 rfl ?_
      refine go_aload_n (x := 82) dX12_isOwnHere_88 rfl ?_
      refine go_getR (x := 92) dX12_isOwnHere_89 f12_42 sh82 (fun _ _ => rfl) (rf82_18 hR) ?_
      refine gvI1 MX12_isHere dX12_isOwnHere_92 lX12_301 kX12_isHere vX12_isHere sh82 (by decide) rfl (Nat.le_of_ble_eq_true rfl) vc ?_
      intro v2 h2 vc
      obtain ⟨hR2, vc⟩ := vc
      replace hR := hR2.trans hR
      refine go_if_ne 142 dX12_isOwnHere_95 rfl (fun q => ?_) (fun q => ?_)
      · replace vc := vc.1 q
        exact vc
      · replace vc := vc.2 q
        refine go_aload_n (x := 82) dX12_isOwnHere_98 rfl ?_
        refine go_aload_n (x := 82) dX12_isOwnHere_99 rfl ?_
        refine go_getR (x := 93) dX12_isOwnHere_100 f12_45 sh82 (fun _ _ => rfl) (rf82_19 hR) ?_
        refine gvI1 MX12_isHere dX12_isOwnHere_103 lX12_301 kX12_isHere vX12_isHere sh82 (by decide) rfl (Nat.le_of_ble_eq_true rfl) vc ?_
        intro v3 h3 vc
        obtain ⟨hR3, vc⟩ := vc
        replace hR := hR3.trans hR
        refine go_if_ne 142 dX12_isOwnHere_106 rfl (fun q => ?_) (fun q => ?_)
        · replace vc := vc.1 q
          exact vc
        · replace vc := vc.2 q
          refine go_aload_n (x := 82) dX12_isOwnHere_109 rfl ?_
          refine go_aload_n (x := 82) dX12_isOwnHere_110 rfl ?_
          refine go_getR (x := 94) dX12_isOwnHere_111 f12_48 sh82 (fun _ _ => rfl) (rf82_20 hR) ?_
          refine gvI1 MX12_isHere dX12_isOwnHere_114 lX12_301 kX12_isHere vX12_isHere sh82 (by decide) rfl (Nat.le_of_ble_eq_true rfl) vc ?_
          intro v4 h4 vc
          obtain ⟨hR4, vc⟩ := vc
          replace hR := hR4.trans hR
          refine go_if_ne 142 dX12_isOwnHere_117 rfl (fun q => ?_) (fun q => ?_)
          · replace vc := vc.1 q
            exact vc
          · replace vc := vc.2 q
            refine go_aload_n (x := 82) dX12_isOwnHere_120 rfl ?_
            refine go_aload_n (x := 82) dX12_isOwnHere_121 rfl ?_
            refine go_getR (x := 95) dX12_isOwnHere_122 f12_51 sh82 (fun _ _ => rfl) (rf82_21 hR) ?_
            refine gvI1 MX12_isHere dX12_isOwnHere_125 lX12_301 kX12_isHere vX12_isHere sh82 (by decide) rfl (Nat.le_of_ble_eq_true rfl) vc ?_
            intro v5 h5 vc
            obtain ⟨hR5, vc⟩ := vc
            replace hR := hR5.trans hR
            refine go_if_ne 142 dX12_isOwnHere_128 rfl (fun q => ?_) (fun q => ?_)
            · replace vc := vc.1 q
              exact vc
            · replace vc := vc.2 q
              refine go_aload_n (x := 82) dX12_isOwnHere_131 rfl ?_
              refine go_aload_n (x := 82) dX12_isOwnHere_132 rfl ?_
              refine go_getR (x := 96) dX12_isOwnHere_133 f12_54 sh82 (fun _ _ => rfl) (rf82_22 hR) ?_
              refine gvI1 MX12_isHere dX12_isOwnHere_136 lX12_301 kX12_isHere vX12_isHere sh82 (by decide) rfl (Nat.le_of_ble_eq_true rfl) vc ?_
              intro v6 h6 vc
              obtain ⟨hR6, vc⟩ := vc
              replace hR := hR6.trans hR
              refine go_if_eq 146 dX12_isOwnHere_139 rfl (fun q => ?_) (fun q => ?_)
              · replace vc := vc.1 q
                refine go_iconst (v := 0) dX12_isOwnHere_146 rfl ?_
                exact vc
              · replace vc := vc.2 q
                exact vc
set_option maxRecDepth 20000 in
theorem wX12_isOwnHere_142 {p : Program} {l : Launch} {e : Env} {s : State} {m : MethodId} {args : Array Value} {below : List Frame} {meth : Method} {c : Code} {G : gG} {d : Nat} {Q : Option Value → gH → Prop} {h : gH} {lk sp : Nat} {cd : Option Nat} {x1 : Int32} (hR : h.2.2 = gRF lk sp cd) (hlk : lk = 30 ∨ lk = 67) (hsp : sp = 30 ∨ sp = 67)  (vc : gg p l e s m args below meth c G (d + 1) MX12_isOwnHere Q 147 [some (.ref 82), some (.int x1)] [.int 1] h) : gg p l e s m args below meth c G (d + 1) MX12_isOwnHere Q 142 [some (.ref 82), some (.int x1)] [] h := by
  refine go_iconst (v := 1) dX12_isOwnHere_142 rfl ?_
  refine go_goto 147 dX12_isOwnHere_143 rfl ?_
  exact vc
set_option maxRecDepth 20000 in
theorem wX12_isOwnHere_147 {p : Program} {l : Launch} {e : Env} {s : State} {m : MethodId} {args : Array Value} {below : List Frame} {meth : Method} {c : Code} {G : gG} {d : Nat} {Q : Option Value → gH → Prop} {h : gH} {lk sp : Nat} {cd : Option Nat} {x1 : Int32} {y0 : Int32} (hR : h.2.2 = gRF lk sp cd) (hlk : lk = 30 ∨ lk = 67) (hsp : sp = 30 ∨ sp = 67)  (vc : ((¬ y0 = 0 → gg p l e s m args below meth c G (d + 1) MX12_isOwnHere Q 218 [some (.ref 82), some (.int y0)] [] h) ∧ (y0 = 0 → gC l G d MX12_isHere [.ref 82, .ref 97] h (rI fun v1 h1 => h1.2.2 = (h).2.2 ∧ ((¬ v1 = 0 → gg p l e s m args below meth c G (d + 1) MX12_isOwnHere Q 218 [some (.ref 82), some (.int y0)] [] h1) ∧ (v1 = 0 → gC l G d MX12_isHere [.ref 82, .ref 98] h1 (rI fun v2 h2 => h2.2.2 = (h1).2.2 ∧ ((¬ v2 = 0 → gg p l e s m args below meth c G (d + 1) MX12_isOwnHere Q 218 [some (.ref 82), some (.int y0)] [] h2) ∧ (v2 = 0 → gC l G d MX12_isHere [.ref 82, .ref 99] h2 (rI fun v3 h3 => h3.2.2 = (h2).2.2 ∧ ((¬ v3 = 0 → gg p l e s m args below meth c G (d + 1) MX12_isOwnHere Q 218 [some (.ref 82), some (.int y0)] [] h3) ∧ (v3 = 0 → gC l G d MX12_isHere [.ref 82, .ref 100] h3 (rI fun v4 h4 => h4.2.2 = (h3).2.2 ∧ ((¬ v4 = 0 → gg p l e s m args below meth c G (d + 1) MX12_isOwnHere Q 218 [some (.ref 82), some (.int y0)] [] h4) ∧ (v4 = 0 → gC l G d MX12_isHere [.ref 82, .ref 101] h4 (rI fun v5 h5 => h5.2.2 = (h4).2.2 ∧ ((¬ v5 = 0 → gg p l e s m args below meth c G (d + 1) MX12_isOwnHere Q 218 [some (.ref 82), some (.int y0)] [] h5) ∧ (v5 = 0 → gC l G d MX12_isHere [.ref 82, .ref 102] h5 (rI fun v6 h6 => h6.2.2 = (h5).2.2 ∧ ((v6 = 0 → gg p l e s m args below meth c G (d + 1) MX12_isOwnHere Q 223 [some (.ref 82), some (.int y0)] [.int 0] h6) ∧ (¬ v6 = 0 → gg p l e s m args below meth c G (d + 1) MX12_isOwnHere Q 218 [some (.ref 82), some (.int y0)] [] h6))))))))))))))))))))) : gg p l e s m args below meth c G (d + 1) MX12_isOwnHere Q 147 [some (.ref 82), some (.int x1)] [.int y0] h := by
  refine go_istore_n dX12_isOwnHere_147 (Nat.le_of_ble_eq_true rfl) ?_
  show gg p l e s m args below meth c G (d + 1) MX12_isOwnHere Q 148 [some (.ref 82), some (.int y0)] [] h
  refine go_iload_n (x := y0) dX12_isOwnHere_148 rfl ?_
  refine go_if_ne 218 dX12_isOwnHere_149 rfl (fun q => ?_) (fun q => ?_)
  · replace vc := vc.1 q
    exact vc
  · replace vc := vc.2 q
    refine go_aload_n (x := 82) dX12_isOwnHere_152 rfl ?_
    refine go_aload_n (x := 82) dX12_isOwnHere_153 rfl ?_
    refine go_getR (x := 97) dX12_isOwnHere_154 f12_57 sh82 (fun _ _ => rfl) (rf82_23 hR) ?_
    refine gvI1 MX12_isHere dX12_isOwnHere_157 lX12_301 kX12_isHere vX12_isHere sh82 (by decide) rfl (Nat.le_of_ble_eq_true rfl) vc ?_
    intro v1 h1 vc
    obtain ⟨hR1, vc⟩ := vc
    replace hR := hR1.trans hR
    refine go_if_ne 218 dX12_isOwnHere_160 rfl (fun q => ?_) (fun q => ?_)
    · replace vc := vc.1 q
      exact vc
    · replace vc := vc.2 q
      refine go_aload_n (x := 82) dX12_isOwnHere_163 rfl ?_
      refine go_aload_n (x := 82) dX12_isOwnHere_164 rfl ?_
      refine go_getR (x := 98) dX12_isOwnHere_165 f12_60 sh82 (fun _ _ => rfl) (rf82_24 hR) ?_
      refine gvI1 MX12_isHere dX12_isOwnHere_168 lX12_301 kX12_isHere vX12_isHere sh82 (by decide) rfl (Nat.le_of_ble_eq_true rfl) vc ?_
      intro v2 h2 vc
      obtain ⟨hR2, vc⟩ := vc
      replace hR := hR2.trans hR
      refine go_if_ne 218 dX12_isOwnHere_171 rfl (fun q => ?_) (fun q => ?_)
      · replace vc := vc.1 q
        exact vc
      · replace vc := vc.2 q
        refine go_aload_n (x := 82) dX12_isOwnHere_174 rfl ?_
        refine go_aload_n (x := 82) dX12_isOwnHere_175 rfl ?_
        refine go_getR (x := 99) dX12_isOwnHere_176 f12_63 sh82 (fun _ _ => rfl) (rf82_25 hR) ?_
        refine gvI1 MX12_isHere dX12_isOwnHere_179 lX12_301 kX12_isHere vX12_isHere sh82 (by decide) rfl (Nat.le_of_ble_eq_true rfl) vc ?_
        intro v3 h3 vc
        obtain ⟨hR3, vc⟩ := vc
        replace hR := hR3.trans hR
        refine go_if_ne 218 dX12_isOwnHere_182 rfl (fun q => ?_) (fun q => ?_)
        · replace vc := vc.1 q
          exact vc
        · replace vc := vc.2 q
          refine go_aload_n (x := 82) dX12_isOwnHere_185 rfl ?_
          refine go_aload_n (x := 82) dX12_isOwnHere_186 rfl ?_
          refine go_getR (x := 100) dX12_isOwnHere_187 f12_66 sh82 (fun _ _ => rfl) (rf82_26 hR) ?_
          refine gvI1 MX12_isHere dX12_isOwnHere_190 lX12_301 kX12_isHere vX12_isHere sh82 (by decide) rfl (Nat.le_of_ble_eq_true rfl) vc ?_
          intro v4 h4 vc
          obtain ⟨hR4, vc⟩ := vc
          replace hR := hR4.trans hR
          refine go_if_ne 218 dX12_isOwnHere_193 rfl (fun q => ?_) (fun q => ?_)
          · replace vc := vc.1 q
            exact vc
          · replace vc := vc.2 q
            refine go_aload_n (x := 82) dX12_isOwnHere_196 rfl ?_
            refine go_aload_n (x := 82) dX12_isOwnHere_197 rfl ?_
            refine go_getR (x := 101) dX12_isOwnHere_198 f12_69 sh82 (fun _ _ => rfl) (rf82_27 hR) ?_
            refine gvI1 MX12_isHere dX12_isOwnHere_201 lX12_301 kX12_isHere vX12_isHere sh82 (by decide) rfl (Nat.le_of_ble_eq_true rfl) vc ?_
            intro v5 h5 vc
            obtain ⟨hR5, vc⟩ := vc
            replace hR := hR5.trans hR
            refine go_if_ne 218 dX12_isOwnHere_204 rfl (fun q => ?_) (fun q => ?_)
            · replace vc := vc.1 q
              exact vc
            · replace vc := vc.2 q
              refine go_aload_n (x := 82) dX12_isOwnHere_207 rfl ?_
              refine go_aload_n (x := 82) dX12_isOwnHere_208 rfl ?_
              refine go_getR (x := 102) dX12_isOwnHere_209 f12_72 sh82 (fun _ _ => rfl) (rf82_28 hR) ?_
              refine gvI1 MX12_isHere dX12_isOwnHere_212 lX12_301 kX12_isHere vX12_isHere sh82 (by decide) rfl (Nat.le_of_ble_eq_true rfl) vc ?_
              intro v6 h6 vc
              obtain ⟨hR6, vc⟩ := vc
              replace hR := hR6.trans hR
              refine go_if_eq 222 dX12_isOwnHere_215 rfl (fun q => ?_) (fun q => ?_)
              · replace vc := vc.1 q
                refine go_iconst (v := 0) dX12_isOwnHere_222 rfl ?_
                exact vc
              · replace vc := vc.2 q
                exact vc
set_option maxRecDepth 20000 in
theorem wX12_isOwnHere_218 {p : Program} {l : Launch} {e : Env} {s : State} {m : MethodId} {args : Array Value} {below : List Frame} {meth : Method} {c : Code} {G : gG} {d : Nat} {Q : Option Value → gH → Prop} {h : gH} {lk sp : Nat} {cd : Option Nat} {x1 : Int32} (hR : h.2.2 = gRF lk sp cd) (hlk : lk = 30 ∨ lk = 67) (hsp : sp = 30 ∨ sp = 67)  (vc : gg p l e s m args below meth c G (d + 1) MX12_isOwnHere Q 223 [some (.ref 82), some (.int x1)] [.int 1] h) : gg p l e s m args below meth c G (d + 1) MX12_isOwnHere Q 218 [some (.ref 82), some (.int x1)] [] h := by
  refine go_iconst (v := 1) dX12_isOwnHere_218 rfl ?_
  refine go_goto 223 dX12_isOwnHere_219 rfl ?_
  exact vc
set_option maxRecDepth 20000 in
theorem wX12_isOwnHere_223 {p : Program} {l : Launch} {e : Env} {s : State} {m : MethodId} {args : Array Value} {below : List Frame} {meth : Method} {c : Code} {G : gG} {d : Nat} {Q : Option Value → gH → Prop} {h : gH} {lk sp : Nat} {cd : Option Nat} {x1 : Int32} {y0 : Int32} (hR : h.2.2 = gRF lk sp cd) (hlk : lk = 30 ∨ lk = 67) (hsp : sp = 30 ∨ sp = 67)  (vc : ((¬ y0 = 0 → gg p l e s m args below meth c G (d + 1) MX12_isOwnHere Q 294 [some (.ref 82), some (.int y0)] [] h) ∧ (y0 = 0 → gC l G d MX12_isHere [.ref 82, .ref 103] h (rI fun v1 h1 => h1.2.2 = (h).2.2 ∧ ((¬ v1 = 0 → gg p l e s m args below meth c G (d + 1) MX12_isOwnHere Q 294 [some (.ref 82), some (.int y0)] [] h1) ∧ (v1 = 0 → gC l G d MX12_isHere [.ref 82, .ref 104] h1 (rI fun v2 h2 => h2.2.2 = (h1).2.2 ∧ ((¬ v2 = 0 → gg p l e s m args below meth c G (d + 1) MX12_isOwnHere Q 294 [some (.ref 82), some (.int y0)] [] h2) ∧ (v2 = 0 → gC l G d MX12_isHere [.ref 82, .ref 105] h2 (rI fun v3 h3 => h3.2.2 = (h2).2.2 ∧ ((¬ v3 = 0 → gg p l e s m args below meth c G (d + 1) MX12_isOwnHere Q 294 [some (.ref 82), some (.int y0)] [] h3) ∧ (v3 = 0 → gC l G d MX12_isHere [.ref 82, .ref 106] h3 (rI fun v4 h4 => h4.2.2 = (h3).2.2 ∧ ((¬ v4 = 0 → gg p l e s m args below meth c G (d + 1) MX12_isOwnHere Q 294 [some (.ref 82), some (.int y0)] [] h4) ∧ (v4 = 0 → gC l G d MX12_isHere [.ref 82, .ref 107] h4 (rI fun v5 h5 => h5.2.2 = (h4).2.2 ∧ ((¬ v5 = 0 → gg p l e s m args below meth c G (d + 1) MX12_isOwnHere Q 294 [some (.ref 82), some (.int y0)] [] h5) ∧ (v5 = 0 → gC l G d MX12_isHere [.ref 82, .ref 108] h5 (rI fun v6 h6 => h6.2.2 = (h5).2.2 ∧ ((v6 = 0 → gg p l e s m args below meth c G (d + 1) MX12_isOwnHere Q 299 [some (.ref 82), some (.int y0)] [.int 0] h6) ∧ (¬ v6 = 0 → gg p l e s m args below meth c G (d + 1) MX12_isOwnHere Q 294 [some (.ref 82), some (.int y0)] [] h6))))))))))))))))))))) : gg p l e s m args below meth c G (d + 1) MX12_isOwnHere Q 223 [some (.ref 82), some (.int x1)] [.int y0] h := by
  refine go_istore_n dX12_isOwnHere_223 (Nat.le_of_ble_eq_true rfl) ?_
  show gg p l e s m args below meth c G (d + 1) MX12_isOwnHere Q 224 [some (.ref 82), some (.int y0)] [] h
  refine go_iload_n (x := y0) dX12_isOwnHere_224 rfl ?_
  refine go_if_ne 294 dX12_isOwnHere_225 rfl (fun q => ?_) (fun q => ?_)
  · replace vc := vc.1 q
    exact vc
  · replace vc := vc.2 q
    refine go_aload_n (x := 82) dX12_isOwnHere_228 rfl ?_
    refine go_aload_n (x := 82) dX12_isOwnHere_229 rfl ?_
    refine go_getR (x := 103) dX12_isOwnHere_230 f12_75 sh82 (fun _ _ => rfl) (rf82_29 hR) ?_
    refine gvI1 MX12_isHere dX12_isOwnHere_233 lX12_301 kX12_isHere vX12_isHere sh82 (by decide) rfl (Nat.le_of_ble_eq_true rfl) vc ?_
    intro v1 h1 vc
    obtain ⟨hR1, vc⟩ := vc
    replace hR := hR1.trans hR
    refine go_if_ne 294 dX12_isOwnHere_236 rfl (fun q => ?_) (fun q => ?_)
    · replace vc := vc.1 q
      exact vc
    · replace vc := vc.2 q
      refine go_aload_n (x := 82) dX12_isOwnHere_239 rfl ?_
      refine go_aload_n (x := 82) dX12_isOwnHere_240 rfl ?_
      refine go_getR (x := 104) dX12_isOwnHere_241 f12_78 sh82 (fun _ _ => rfl) (rf82_30 hR) ?_
      refine gvI1 MX12_isHere dX12_isOwnHere_244 lX12_301 kX12_isHere vX12_isHere sh82 (by decide) rfl (Nat.le_of_ble_eq_true rfl) vc ?_
      intro v2 h2 vc
      obtain ⟨hR2, vc⟩ := vc
      replace hR := hR2.trans hR
      refine go_if_ne 294 dX12_isOwnHere_247 rfl (fun q => ?_) (fun q => ?_)
      · replace vc := vc.1 q
        exact vc
      · replace vc := vc.2 q
        refine go_aload_n (x := 82) dX12_isOwnHere_250 rfl ?_
        refine go_aload_n (x := 82) dX12_isOwnHere_251 rfl ?_
        refine go_getR (x := 105) dX12_isOwnHere_252 f12_81 sh82 (fun _ _ => rfl) (rf82_31 hR) ?_
        refine gvI1 MX12_isHere dX12_isOwnHere_255 lX12_301 kX12_isHere vX12_isHere sh82 (by decide) rfl (Nat.le_of_ble_eq_true rfl) vc ?_
        intro v3 h3 vc
        obtain ⟨hR3, vc⟩ := vc
        replace hR := hR3.trans hR
        refine go_if_ne 294 dX12_isOwnHere_258 rfl (fun q => ?_) (fun q => ?_)
        · replace vc := vc.1 q
          exact vc
        · replace vc := vc.2 q
          refine go_aload_n (x := 82) dX12_isOwnHere_261 rfl ?_
          refine go_aload_n (x := 82) dX12_isOwnHere_262 rfl ?_
          refine go_getR (x := 106) dX12_isOwnHere_263 f12_84 sh82 (fun _ _ => rfl) (rf82_32 hR) ?_
          refine gvI1 MX12_isHere dX12_isOwnHere_266 lX12_301 kX12_isHere vX12_isHere sh82 (by decide) rfl (Nat.le_of_ble_eq_true rfl) vc ?_
          intro v4 h4 vc
          obtain ⟨hR4, vc⟩ := vc
          replace hR := hR4.trans hR
          refine go_if_ne 294 dX12_isOwnHere_269 rfl (fun q => ?_) (fun q => ?_)
          · replace vc := vc.1 q
            exact vc
          · replace vc := vc.2 q
            refine go_aload_n (x := 82) dX12_isOwnHere_272 rfl ?_
            refine go_aload_n (x := 82) dX12_isOwnHere_273 rfl ?_
            refine go_getR (x := 107) dX12_isOwnHere_274 f12_87 sh82 (fun _ _ => rfl) (rf82_33 hR) ?_
            refine gvI1 MX12_isHere dX12_isOwnHere_277 lX12_301 kX12_isHere vX12_isHere sh82 (by decide) rfl (Nat.le_of_ble_eq_true rfl) vc ?_
            intro v5 h5 vc
            obtain ⟨hR5, vc⟩ := vc
            replace hR := hR5.trans hR
            refine go_if_ne 294 dX12_isOwnHere_280 rfl (fun q => ?_) (fun q => ?_)
            · replace vc := vc.1 q
              exact vc
            · replace vc := vc.2 q
              refine go_aload_n (x := 82) dX12_isOwnHere_283 rfl ?_
              refine go_aload_n (x := 82) dX12_isOwnHere_284 rfl ?_
              refine go_getR (x := 108) dX12_isOwnHere_285 f12_90 sh82 (fun _ _ => rfl) (rf82_34 hR) ?_
              refine gvI1 MX12_isHere dX12_isOwnHere_288 lX12_301 kX12_isHere vX12_isHere sh82 (by decide) rfl (Nat.le_of_ble_eq_true rfl) vc ?_
              intro v6 h6 vc
              obtain ⟨hR6, vc⟩ := vc
              replace hR := hR6.trans hR
              refine go_if_eq 298 dX12_isOwnHere_291 rfl (fun q => ?_) (fun q => ?_)
              · replace vc := vc.1 q
                refine go_iconst (v := 0) dX12_isOwnHere_298 rfl ?_
                exact vc
              · replace vc := vc.2 q
                exact vc
set_option maxRecDepth 20000 in
theorem wX12_isOwnHere_294 {p : Program} {l : Launch} {e : Env} {s : State} {m : MethodId} {args : Array Value} {below : List Frame} {meth : Method} {c : Code} {G : gG} {d : Nat} {Q : Option Value → gH → Prop} {h : gH} {lk sp : Nat} {cd : Option Nat} {x1 : Int32} (hR : h.2.2 = gRF lk sp cd) (hlk : lk = 30 ∨ lk = 67) (hsp : sp = 30 ∨ sp = 67)  (vc : gg p l e s m args below meth c G (d + 1) MX12_isOwnHere Q 299 [some (.ref 82), some (.int x1)] [.int 1] h) : gg p l e s m args below meth c G (d + 1) MX12_isOwnHere Q 294 [some (.ref 82), some (.int x1)] [] h := by
  refine go_iconst (v := 1) dX12_isOwnHere_294 rfl ?_
  refine go_goto 299 dX12_isOwnHere_295 rfl ?_
  exact vc
set_option maxRecDepth 20000 in
theorem wX12_isOwnHere_299 {p : Program} {l : Launch} {e : Env} {s : State} {m : MethodId} {args : Array Value} {below : List Frame} {meth : Method} {c : Code} {G : gG} {d : Nat} {Q : Option Value → gH → Prop} {h : gH} {lk sp : Nat} {cd : Option Nat} {x1 : Int32} {y0 : Int32} (hR : h.2.2 = gRF lk sp cd) (hlk : lk = 30 ∨ lk = 67) (hsp : sp = 30 ∨ sp = 67)  (vc : ((¬ y0 = 0 → gg p l e s m args below meth c G (d + 1) MX12_isOwnHere Q 370 [some (.ref 82), some (.int y0)] [] h) ∧ (y0 = 0 → gC l G d MX12_isHere [.ref 82, .ref 109] h (rI fun v1 h1 => h1.2.2 = (h).2.2 ∧ ((¬ v1 = 0 → gg p l e s m args below meth c G (d + 1) MX12_isOwnHere Q 370 [some (.ref 82), some (.int y0)] [] h1) ∧ (v1 = 0 → gC l G d MX12_isHere [.ref 82, .ref 110] h1 (rI fun v2 h2 => h2.2.2 = (h1).2.2 ∧ ((¬ v2 = 0 → gg p l e s m args below meth c G (d + 1) MX12_isOwnHere Q 370 [some (.ref 82), some (.int y0)] [] h2) ∧ (v2 = 0 → gC l G d MX12_isHere [.ref 82, .ref 111] h2 (rI fun v3 h3 => h3.2.2 = (h2).2.2 ∧ ((¬ v3 = 0 → gg p l e s m args below meth c G (d + 1) MX12_isOwnHere Q 370 [some (.ref 82), some (.int y0)] [] h3) ∧ (v3 = 0 → gC l G d MX12_isHere [.ref 82, .ref 112] h3 (rI fun v4 h4 => h4.2.2 = (h3).2.2 ∧ ((¬ v4 = 0 → gg p l e s m args below meth c G (d + 1) MX12_isOwnHere Q 370 [some (.ref 82), some (.int y0)] [] h4) ∧ (v4 = 0 → gC l G d MX12_isHere [.ref 82, .ref 113] h4 (rI fun v5 h5 => h5.2.2 = (h4).2.2 ∧ ((¬ v5 = 0 → gg p l e s m args below meth c G (d + 1) MX12_isOwnHere Q 370 [some (.ref 82), some (.int y0)] [] h5) ∧ (v5 = 0 → gC l G d MX12_isHere [.ref 82, .ref 114] h5 (rI fun v6 h6 => h6.2.2 = (h5).2.2 ∧ ((v6 = 0 → gg p l e s m args below meth c G (d + 1) MX12_isOwnHere Q 375 [some (.ref 82), some (.int y0)] [.int 0] h6) ∧ (¬ v6 = 0 → gg p l e s m args below meth c G (d + 1) MX12_isOwnHere Q 370 [some (.ref 82), some (.int y0)] [] h6))))))))))))))))))))) : gg p l e s m args below meth c G (d + 1) MX12_isOwnHere Q 299 [some (.ref 82), some (.int x1)] [.int y0] h := by
  refine go_istore_n dX12_isOwnHere_299 (Nat.le_of_ble_eq_true rfl) ?_
  show gg p l e s m args below meth c G (d + 1) MX12_isOwnHere Q 300 [some (.ref 82), some (.int y0)] [] h
  refine go_iload_n (x := y0) dX12_isOwnHere_300 rfl ?_
  refine go_if_ne 370 dX12_isOwnHere_301 rfl (fun q => ?_) (fun q => ?_)
  · replace vc := vc.1 q
    exact vc
  · replace vc := vc.2 q
    refine go_aload_n (x := 82) dX12_isOwnHere_304 rfl ?_
    refine go_aload_n (x := 82) dX12_isOwnHere_305 rfl ?_
    refine go_getR (x := 109) dX12_isOwnHere_306 f12_93 sh82 (fun _ _ => rfl) (rf82_35 hR) ?_
    refine gvI1 MX12_isHere dX12_isOwnHere_309 lX12_301 kX12_isHere vX12_isHere sh82 (by decide) rfl (Nat.le_of_ble_eq_true rfl) vc ?_
    intro v1 h1 vc
    obtain ⟨hR1, vc⟩ := vc
    replace hR := hR1.trans hR
    refine go_if_ne 370 dX12_isOwnHere_312 rfl (fun q => ?_) (fun q => ?_)
    · replace vc := vc.1 q
      exact vc
    · replace vc := vc.2 q
      refine go_aload_n (x := 82) dX12_isOwnHere_315 rfl ?_
      refine go_aload_n (x := 82) dX12_isOwnHere_316 rfl ?_
      refine go_getR (x := 110) dX12_isOwnHere_317 f12_96 sh82 (fun _ _ => rfl) (rf82_36 hR) ?_
      refine gvI1 MX12_isHere dX12_isOwnHere_320 lX12_301 kX12_isHere vX12_isHere sh82 (by decide) rfl (Nat.le_of_ble_eq_true rfl) vc ?_
      intro v2 h2 vc
      obtain ⟨hR2, vc⟩ := vc
      replace hR := hR2.trans hR
      refine go_if_ne 370 dX12_isOwnHere_323 rfl (fun q => ?_) (fun q => ?_)
      · replace vc := vc.1 q
        exact vc
      · replace vc := vc.2 q
        refine go_aload_n (x := 82) dX12_isOwnHere_326 rfl ?_
        refine go_aload_n (x := 82) dX12_isOwnHere_327 rfl ?_
        refine go_getR (x := 111) dX12_isOwnHere_328 f12_99 sh82 (fun _ _ => rfl) (rf82_37 hR) ?_
        refine gvI1 MX12_isHere dX12_isOwnHere_331 lX12_301 kX12_isHere vX12_isHere sh82 (by decide) rfl (Nat.le_of_ble_eq_true rfl) vc ?_
        intro v3 h3 vc
        obtain ⟨hR3, vc⟩ := vc
        replace hR := hR3.trans hR
        refine go_if_ne 370 dX12_isOwnHere_334 rfl (fun q => ?_) (fun q => ?_)
        · replace vc := vc.1 q
          exact vc
        · replace vc := vc.2 q
          refine go_aload_n (x := 82) dX12_isOwnHere_337 rfl ?_
          refine go_aload_n (x := 82) dX12_isOwnHere_338 rfl ?_
          refine go_getR (x := 112) dX12_isOwnHere_339 f12_102 sh82 (fun _ _ => rfl) (rf82_38 hR) ?_
          refine gvI1 MX12_isHere dX12_isOwnHere_342 lX12_301 kX12_isHere vX12_isHere sh82 (by decide) rfl (Nat.le_of_ble_eq_true rfl) vc ?_
          intro v4 h4 vc
          obtain ⟨hR4, vc⟩ := vc
          replace hR := hR4.trans hR
          refine go_if_ne 370 dX12_isOwnHere_345 rfl (fun q => ?_) (fun q => ?_)
          · replace vc := vc.1 q
            exact vc
          · replace vc := vc.2 q
            refine go_aload_n (x := 82) dX12_isOwnHere_348 rfl ?_
            refine go_aload_n (x := 82) dX12_isOwnHere_349 rfl ?_
            refine go_getR (x := 113) dX12_isOwnHere_350 f12_105 sh82 (fun _ _ => rfl) (rf82_39 hR) ?_
            refine gvI1 MX12_isHere dX12_isOwnHere_353 lX12_301 kX12_isHere vX12_isHere sh82 (by decide) rfl (Nat.le_of_ble_eq_true rfl) vc ?_
            intro v5 h5 vc
            obtain ⟨hR5, vc⟩ := vc
            replace hR := hR5.trans hR
            refine go_if_ne 370 dX12_isOwnHere_356 rfl (fun q => ?_) (fun q => ?_)
            · replace vc := vc.1 q
              exact vc
            · replace vc := vc.2 q
              refine go_aload_n (x := 82) dX12_isOwnHere_359 rfl ?_
              refine go_aload_n (x := 82) dX12_isOwnHere_360 rfl ?_
              refine go_getR (x := 114) dX12_isOwnHere_361 f12_108 sh82 (fun _ _ => rfl) (rf82_40 hR) ?_
              refine gvI1 MX12_isHere dX12_isOwnHere_364 lX12_301 kX12_isHere vX12_isHere sh82 (by decide) rfl (Nat.le_of_ble_eq_true rfl) vc ?_
              intro v6 h6 vc
              obtain ⟨hR6, vc⟩ := vc
              replace hR := hR6.trans hR
              refine go_if_eq 374 dX12_isOwnHere_367 rfl (fun q => ?_) (fun q => ?_)
              · replace vc := vc.1 q
                refine go_iconst (v := 0) dX12_isOwnHere_374 rfl ?_
                exact vc
              · replace vc := vc.2 q
                exact vc
set_option maxRecDepth 20000 in
theorem wX12_isOwnHere_370 {p : Program} {l : Launch} {e : Env} {s : State} {m : MethodId} {args : Array Value} {below : List Frame} {meth : Method} {c : Code} {G : gG} {d : Nat} {Q : Option Value → gH → Prop} {h : gH} {lk sp : Nat} {cd : Option Nat} {x1 : Int32} (hR : h.2.2 = gRF lk sp cd) (hlk : lk = 30 ∨ lk = 67) (hsp : sp = 30 ∨ sp = 67)  (vc : gg p l e s m args below meth c G (d + 1) MX12_isOwnHere Q 375 [some (.ref 82), some (.int x1)] [.int 1] h) : gg p l e s m args below meth c G (d + 1) MX12_isOwnHere Q 370 [some (.ref 82), some (.int x1)] [] h := by
  refine go_iconst (v := 1) dX12_isOwnHere_370 rfl ?_
  refine go_goto 375 dX12_isOwnHere_371 rfl ?_
  exact vc
set_option maxRecDepth 20000 in
theorem wX12_isOwnHere_375 {p : Program} {l : Launch} {e : Env} {s : State} {m : MethodId} {args : Array Value} {below : List Frame} {meth : Method} {c : Code} {G : gG} {d : Nat} {Q : Option Value → gH → Prop} {h : gH} {lk sp : Nat} {cd : Option Nat} {x1 : Int32} {y0 : Int32} (hR : h.2.2 = gRF lk sp cd) (hlk : lk = 30 ∨ lk = 67) (hsp : sp = 30 ∨ sp = 67)  (vc : ((¬ y0 = 0 → gg p l e s m args below meth c G (d + 1) MX12_isOwnHere Q 424 [some (.ref 82), some (.int y0)] [] h) ∧ (y0 = 0 → gC l G d MX12_isHere [.ref 82, .ref 115] h (rI fun v1 h1 => h1.2.2 = (h).2.2 ∧ ((¬ v1 = 0 → gg p l e s m args below meth c G (d + 1) MX12_isOwnHere Q 424 [some (.ref 82), some (.int y0)] [] h1) ∧ (v1 = 0 → gC l G d MX12_isHere [.ref 82, .ref 116] h1 (rI fun v2 h2 => h2.2.2 = (h1).2.2 ∧ ((¬ v2 = 0 → gg p l e s m args below meth c G (d + 1) MX12_isOwnHere Q 424 [some (.ref 82), some (.int y0)] [] h2) ∧ (v2 = 0 → gC l G d MX12_isHere [.ref 82, .ref 117] h2 (rI fun v3 h3 => h3.2.2 = (h2).2.2 ∧ ((¬ v3 = 0 → gg p l e s m args below meth c G (d + 1) MX12_isOwnHere Q 424 [some (.ref 82), some (.int y0)] [] h3) ∧ (v3 = 0 → gC l G d MX12_isHere [.ref 82, .ref 118] h3 (rI fun v4 h4 => h4.2.2 = (h3).2.2 ∧ ((v4 = 0 → gg p l e s m args below meth c G (d + 1) MX12_isOwnHere Q 429 [some (.ref 82), some (.int y0)] [.int 0] h4) ∧ (¬ v4 = 0 → gg p l e s m args below meth c G (d + 1) MX12_isOwnHere Q 424 [some (.ref 82), some (.int y0)] [] h4))))))))))))))) : gg p l e s m args below meth c G (d + 1) MX12_isOwnHere Q 375 [some (.ref 82), some (.int x1)] [.int y0] h := by
  refine go_istore_n dX12_isOwnHere_375 (Nat.le_of_ble_eq_true rfl) ?_
  show gg p l e s m args below meth c G (d + 1) MX12_isOwnHere Q 376 [some (.ref 82), some (.int y0)] [] h
  refine go_iload_n (x := y0) dX12_isOwnHere_376 rfl ?_
  refine go_if_ne 424 dX12_isOwnHere_377 rfl (fun q => ?_) (fun q => ?_)
  · replace vc := vc.1 q
    exact vc
  · replace vc := vc.2 q
    refine go_aload_n (x := 82) dX12_isOwnHere_380 rfl ?_
    refine go_aload_n (x := 82) dX12_isOwnHere_381 rfl ?_
    refine go_getR (x := 115) dX12_isOwnHere_382 f12_111 sh82 (fun _ _ => rfl) (rf82_41 hR) ?_
    refine gvI1 MX12_isHere dX12_isOwnHere_385 lX12_301 kX12_isHere vX12_isHere sh82 (by decide) rfl (Nat.le_of_ble_eq_true rfl) vc ?_
    intro v1 h1 vc
    obtain ⟨hR1, vc⟩ := vc
    replace hR := hR1.trans hR
    refine go_if_ne 424 dX12_isOwnHere_388 rfl (fun q => ?_) (fun q => ?_)
    · replace vc := vc.1 q
      exact vc
    · replace vc := vc.2 q
      refine go_aload_n (x := 82) dX12_isOwnHere_391 rfl ?_
      refine go_aload_n (x := 82) dX12_isOwnHere_392 rfl ?_
      refine go_getR (x := 116) dX12_isOwnHere_393 f12_114 sh82 (fun _ _ => rfl) (rf82_42 hR) ?_
      refine gvI1 MX12_isHere dX12_isOwnHere_396 lX12_301 kX12_isHere vX12_isHere sh82 (by decide) rfl (Nat.le_of_ble_eq_true rfl) vc ?_
      intro v2 h2 vc
      obtain ⟨hR2, vc⟩ := vc
      replace hR := hR2.trans hR
      refine go_if_ne 424 dX12_isOwnHere_399 rfl (fun q => ?_) (fun q => ?_)
      · replace vc := vc.1 q
        exact vc
      · replace vc := vc.2 q
        refine go_aload_n (x := 82) dX12_isOwnHere_402 rfl ?_
        refine go_aload_n (x := 82) dX12_isOwnHere_403 rfl ?_
        refine go_getR (x := 117) dX12_isOwnHere_404 f12_117 sh82 (fun _ _ => rfl) (rf82_43 hR) ?_
        refine gvI1 MX12_isHere dX12_isOwnHere_407 lX12_301 kX12_isHere vX12_isHere sh82 (by decide) rfl (Nat.le_of_ble_eq_true rfl) vc ?_
        intro v3 h3 vc
        obtain ⟨hR3, vc⟩ := vc
        replace hR := hR3.trans hR
        refine go_if_ne 424 dX12_isOwnHere_410 rfl (fun q => ?_) (fun q => ?_)
        · replace vc := vc.1 q
          exact vc
        · replace vc := vc.2 q
          refine go_aload_n (x := 82) dX12_isOwnHere_413 rfl ?_
          refine go_aload_n (x := 82) dX12_isOwnHere_414 rfl ?_
          refine go_getR (x := 118) dX12_isOwnHere_415 f12_120 sh82 (fun _ _ => rfl) (rf82_44 hR) ?_
          refine gvI1 MX12_isHere dX12_isOwnHere_418 lX12_301 kX12_isHere vX12_isHere sh82 (by decide) rfl (Nat.le_of_ble_eq_true rfl) vc ?_
          intro v4 h4 vc
          obtain ⟨hR4, vc⟩ := vc
          replace hR := hR4.trans hR
          refine go_if_eq 428 dX12_isOwnHere_421 rfl (fun q => ?_) (fun q => ?_)
          · replace vc := vc.1 q
            refine go_iconst (v := 0) dX12_isOwnHere_428 rfl ?_
            exact vc
          · replace vc := vc.2 q
            exact vc
set_option maxRecDepth 20000 in
theorem wX12_isOwnHere_424 {p : Program} {l : Launch} {e : Env} {s : State} {m : MethodId} {args : Array Value} {below : List Frame} {meth : Method} {c : Code} {G : gG} {d : Nat} {Q : Option Value → gH → Prop} {h : gH} {lk sp : Nat} {cd : Option Nat} {x1 : Int32} (hR : h.2.2 = gRF lk sp cd) (hlk : lk = 30 ∨ lk = 67) (hsp : sp = 30 ∨ sp = 67)  (vc : gg p l e s m args below meth c G (d + 1) MX12_isOwnHere Q 429 [some (.ref 82), some (.int x1)] [.int 1] h) : gg p l e s m args below meth c G (d + 1) MX12_isOwnHere Q 424 [some (.ref 82), some (.int x1)] [] h := by
  refine go_iconst (v := 1) dX12_isOwnHere_424 rfl ?_
  refine go_goto 429 dX12_isOwnHere_425 rfl ?_
  exact vc
set_option maxRecDepth 20000 in
theorem wX12_isOwnHere_429 {p : Program} {l : Launch} {e : Env} {s : State} {m : MethodId} {args : Array Value} {below : List Frame} {meth : Method} {c : Code} {G : gG} {d : Nat} {Q : Option Value → gH → Prop} {h : gH} {lk sp : Nat} {cd : Option Nat} {x1 : Int32} {y0 : Int32} (hR : h.2.2 = gRF lk sp cd) (hlk : lk = 30 ∨ lk = 67) (hsp : sp = 30 ∨ sp = 67)  (vc : ((y0 = 0 ∨ y0 = 1) ∧ Q (some (.int y0)) h)) : gg p l e s m args below meth c G (d + 1) MX12_isOwnHere Q 429 [some (.ref 82), some (.int x1)] [.int y0] h := by
  refine go_istore_n dX12_isOwnHere_429 (Nat.le_of_ble_eq_true rfl) ?_
  show gg p l e s m args below meth c G (d + 1) MX12_isOwnHere Q 430 [some (.ref 82), some (.int y0)] [] h
  refine go_iload_n (x := y0) dX12_isOwnHere_430 rfl ?_
  exact go_zret dX12_isOwnHere_431 rfl vc.1 vc.2 rfl (Nat.le_refl _) (Nat.le_refl _)
set_option maxRecDepth 20000 in
theorem wX12_name_0 {p : Program} {l : Launch} {e : Env} {s : State} {m : MethodId} {args : Array Value} {below : List Frame} {meth : Method} {c : Code} {G : gG} {d : Nat} {Q : Option Value → gH → Prop} {h : gH} {lk sp : Nat} {cd : Option Nat}  (hR : h.2.2 = gRF lk sp cd) (hlk : lk = 30 ∨ lk = 67) (hsp : sp = 30 ∨ sp = 67)  (vc : (((h.1 82 5) = 0 → gC l G d MX12_look [.ref 82] h (rI fun v1 h1 => h1.2.2 = (h).2.2 ∧ gC l G d MX12_isLetter [.int v1] h1 (rI fun v2 h2 => h2.2.2 = (h1).2.2 ∧ ((v2 = 0 → gC l G d MX12_fail [.ref 82, .int 1, .int (h2.1 82 2)] h2 (rV fun h3 => h3.2.2 = (h2).2.2 ∧ Q (some (.long 0)) h3)) ∧ (¬ v2 = 0 → (((h2.1 82 2) = (h2.1 82 4) → gC l G d MX12_fail [.ref 82, .int 1, .int (h2.1 82 2)] h2 (rV fun h4 => h4.2.2 = (h2).2.2 ∧ Q (some (.long 0)) h4)) ∧ (¬ (h2.1 82 2) = (h2.1 82 4) → gC l G d MX12_isOwnHere [.ref 82] h2 (rI fun v5 h5 => h5.2.2 = (h2).2.2 ∧ ((v5 = 0 → gg p l e s m args below meth c G (d + 1) MX12_name Q 58 [some (.ref 82), some (.long 0), none] [] (sI h5 82 45 (h5.1 82 2))) ∧ (¬ v5 = 0 → gC l G d MX12_fail [.ref 82, .int 1, .int (h5.1 82 2)] h5 (rV fun h6 => h6.2.2 = (h5).2.2 ∧ Q (some (.long 0)) h6))))))))))) ∧ (¬ (h.1 82 5) = 0 → Q (some (.long 0)) h))) : gg p l e s m args below meth c G (d + 1) MX12_name Q 0 [some (.ref 82), none, none] [] h := by
  refine go_aload_n (x := 82) dX12_name_0 rfl ?_
  refine go_getI' (v := (h.1 82 5)) dX12_name_1 f12_278 sh82 (fun _ _ => rfl) rfl ?_
  refine go_if_eq 9 dX12_name_4 rfl (fun q => ?_) (fun q => ?_)
  · replace vc := vc.1 q
    refine go_aload_n (x := 82) dX12_name_9 rfl ?_
    refine gvI0 MX12_look dX12_name_10 lX12_290 kX12_look vX12_look sh82 (by decide) rfl (Nat.le_of_ble_eq_true rfl) vc ?_
    intro v1 h1 vc
    obtain ⟨hR1, vc⟩ := vc
    replace hR := hR1.trans hR
    refine gsI1 MX12_isLetter dX12_name_13 lX12_294 kX12_isLetter sX12_isLetter (Nat.le_of_ble_eq_true rfl) vc ?_
    intro v2 h2 vc
    obtain ⟨hR2, vc⟩ := vc
    replace hR := hR2.trans hR
    refine go_if_eq 37 dX12_name_16 rfl (fun q => ?_) (fun q => ?_)
    · replace vc := vc.1 q
      refine go_aload_n (x := 82) dX12_name_37 rfl ?_
      refine go_iconst (v := 1) dX12_name_38 rfl ?_
      refine go_aload_n (x := 82) dX12_name_39 rfl ?_
      refine go_getI' (v := (h2.1 82 2)) dX12_name_40 f12_284 sh82 (fun _ _ => rfl) rfl ?_
      refine gvV2 MX12_fail dX12_name_43 lX12_308 kX12_fail vX12_fail sh82 (by decide) rfl (Nat.le_of_ble_eq_true rfl) vc ?_
      intro h3 vc
      obtain ⟨hR3, vc⟩ := vc
      replace hR := hR3.trans hR
      refine go_lconst (v := 0) dX12_name_46 rfl ?_
      exact go_lret dX12_name_47 rfl vc rfl (Nat.le_refl _) (Nat.le_refl _)
    · replace vc := vc.2 q
      refine go_aload_n (x := 82) dX12_name_19 rfl ?_
      refine go_getI' (v := (h2.1 82 2)) dX12_name_20 f12_284 sh82 (fun _ _ => rfl) rfl ?_
      refine go_aload_n (x := 82) dX12_name_23 rfl ?_
      refine go_getI' (v := (h2.1 82 4)) dX12_name_24 f12_298 sh82 (fun _ _ => rfl) rfl ?_
      refine go_icmp_eq 37 dX12_name_27 rfl (fun q => ?_) (fun q => ?_)
      · replace vc := vc.1 q
        refine go_aload_n (x := 82) dX12_name_37 rfl ?_
        refine go_iconst (v := 1) dX12_name_38 rfl ?_
        refine go_aload_n (x := 82) dX12_name_39 rfl ?_
        refine go_getI' (v := (h2.1 82 2)) dX12_name_40 f12_284 sh82 (fun _ _ => rfl) rfl ?_
        refine gvV2 MX12_fail dX12_name_43 lX12_308 kX12_fail vX12_fail sh82 (by decide) rfl (Nat.le_of_ble_eq_true rfl) vc ?_
        intro h4 vc
        obtain ⟨hR4, vc⟩ := vc
        replace hR := hR4.trans hR
        refine go_lconst (v := 0) dX12_name_46 rfl ?_
        exact go_lret dX12_name_47 rfl vc rfl (Nat.le_refl _) (Nat.le_refl _)
      · replace vc := vc.2 q
        refine go_aload_n (x := 82) dX12_name_30 rfl ?_
        refine gvI0 MX12_isOwnHere dX12_name_31 lX12_325 kX12_isOwnHere vX12_isOwnHere sh82 (by decide) rfl (Nat.le_of_ble_eq_true rfl) vc ?_
        intro v5 h5 vc
        obtain ⟨hR5, vc⟩ := vc
        replace hR := hR5.trans hR
        refine go_if_eq 48 dX12_name_34 rfl (fun q => ?_) (fun q => ?_)
        · replace vc := vc.1 q
          refine go_aload_n (x := 82) dX12_name_48 rfl ?_
          refine go_aload_n (x := 82) dX12_name_49 rfl ?_
          refine go_getI' (v := (h5.1 82 2)) dX12_name_50 f12_284 sh82 (fun _ _ => rfl) rfl ?_
          refine go_putI dX12_name_53 f12_329 sh82 rfl rfl ?_
          refine go_lconst (v := 0) dX12_name_56 rfl ?_
          refine go_lstore_n dX12_name_57 (Nat.le_of_ble_eq_true rfl) ?_
          show gg p l e s m args below meth c G (d + 1) MX12_name Q 58 [some (.ref 82), some (.long 0), none] [] (sI h5 82 45 (h5.1 82 2))
          exact vc
        · replace vc := vc.2 q
          refine go_aload_n (x := 82) dX12_name_37 rfl ?_
          refine go_iconst (v := 1) dX12_name_38 rfl ?_
          refine go_aload_n (x := 82) dX12_name_39 rfl ?_
          refine go_getI' (v := (h5.1 82 2)) dX12_name_40 f12_284 sh82 (fun _ _ => rfl) rfl ?_
          refine gvV2 MX12_fail dX12_name_43 lX12_308 kX12_fail vX12_fail sh82 (by decide) rfl (Nat.le_of_ble_eq_true rfl) vc ?_
          intro h6 vc
          obtain ⟨hR6, vc⟩ := vc
          replace hR := hR6.trans hR
          refine go_lconst (v := 0) dX12_name_46 rfl ?_
          exact go_lret dX12_name_47 rfl vc rfl (Nat.le_refl _) (Nat.le_refl _)
  · replace vc := vc.2 q
    refine go_lconst (v := 0) dX12_name_7 rfl ?_
    exact go_lret dX12_name_8 rfl vc rfl (Nat.le_refl _) (Nat.le_refl _)
set_option maxRecDepth 20000 in
theorem wX12_name_58 {p : Program} {l : Launch} {e : Env} {s : State} {m : MethodId} {args : Array Value} {below : List Frame} {meth : Method} {c : Code} {G : gG} {d : Nat} {Q : Option Value → gH → Prop} {h : gH} {lk sp : Nat} {cd : Option Nat} {x1 : Int64} (hR : h.2.2 = gRF lk sp cd) (hlk : lk = 30 ∨ lk = 67) (hsp : sp = 30 ∨ sp = 67)  (vc : (((h.1 82 3) ≤ (h.1 82 2) → Q (some (.long x1)) (sI h 82 4 (h.1 82 2))) ∧ (¬ (h.1 82 3) ≤ (h.1 82 2) → (vp_in ((h.1 82 2)) 1600 ∧ gC l G d MX12_isLetter [.int (h.1 83 ((h.1 82 2) : Int32).toNatClampNeg)] h (rI fun v1 h1 => h1.2.2 = (h).2.2 ∧ ((v1 = 0 → Q (some (.long x1)) (sI h1 82 4 (h1.1 82 2))) ∧ (¬ v1 = 0 → ((¬ ((h1.1 82 2) - (h1.1 82 45)) = 6 → (vp_in ((h1.1 82 2)) 1600 ∧ gg p l e s m args below meth c G (d + 1) MX12_name Q 58 [some (.ref 82), some (.long ((((27 * x1) + ((h1.1 83 ((h1.1 82 2) : Int32).toNatClampNeg) : Int32).toInt64) - 97) + 1)), none] [] (sI h1 82 2 ((h1.1 82 2) + 1)))) ∧ (((h1.1 82 2) - (h1.1 82 45)) = 6 → gC l G d MX12_fail [.ref 82, .int 1, .int (h1.1 82 2)] h1 (rV fun h2 => h2.2.2 = (h1).2.2 ∧ Q (some (.long 0)) h2)))))))))) : gg p l e s m args below meth c G (d + 1) MX12_name Q 58 [some (.ref 82), some (.long x1), none] [] h := by
  refine go_aload_n (x := 82) dX12_name_58 rfl ?_
  refine go_getI' (v := (h.1 82 2)) dX12_name_59 f12_284 sh82 (fun _ _ => rfl) rfl ?_
  refine go_aload_n (x := 82) dX12_name_62 rfl ?_
  refine go_getI' (v := (h.1 82 3)) dX12_name_63 f12_287 sh82 (fun _ _ => rfl) rfl ?_
  refine go_icmp_ge 145 dX12_name_66 rfl (fun q => ?_) (fun q => ?_)
  · replace vc := vc.1 q
    refine go_aload_n (x := 82) dX12_name_145 rfl ?_
    refine go_aload_n (x := 82) dX12_name_146 rfl ?_
    refine go_getI' (v := (h.1 82 2)) dX12_name_147 f12_284 sh82 (fun _ _ => rfl) rfl ?_
    refine go_putI dX12_name_150 f12_298 sh82 rfl rfl ?_
    refine go_lload_n (x := x1) dX12_name_153 rfl ?_
    exact go_lret dX12_name_154 rfl vc rfl (Nat.le_refl _) (Nat.le_refl _)
  · replace vc := vc.2 q
    refine go_aload_n (x := 82) dX12_name_69 rfl ?_
    refine go_getR (x := 83) dX12_name_70 f12_7 sh82 (fun _ _ => rfl) (rf82_0 hR) ?_
    refine go_aload_n (x := 82) dX12_name_73 rfl ?_
    refine go_getI' (v := (h.1 82 2)) dX12_name_74 f12_284 sh82 (fun _ _ => rfl) rfl ?_
    refine go_iald' (v := (h.1 83 ((h.1 82 2) : Int32).toNatClampNeg)) dX12_name_77 sh83 vc.1 rfl ?_
    have vc := vc.2
    refine gsI1 MX12_isLetter dX12_name_78 lX12_294 kX12_isLetter sX12_isLetter (Nat.le_of_ble_eq_true rfl) vc ?_
    intro v1 h1 vc
    obtain ⟨hR1, vc⟩ := vc
    replace hR := hR1.trans hR
    refine go_if_eq 145 dX12_name_81 rfl (fun q => ?_) (fun q => ?_)
    · replace vc := vc.1 q
      refine go_aload_n (x := 82) dX12_name_145 rfl ?_
      refine go_aload_n (x := 82) dX12_name_146 rfl ?_
      refine go_getI' (v := (h1.1 82 2)) dX12_name_147 f12_284 sh82 (fun _ _ => rfl) rfl ?_
      refine go_putI dX12_name_150 f12_298 sh82 rfl rfl ?_
      refine go_lload_n (x := x1) dX12_name_153 rfl ?_
      exact go_lret dX12_name_154 rfl vc rfl (Nat.le_refl _) (Nat.le_refl _)
    · replace vc := vc.2 q
      refine go_aload_n (x := 82) dX12_name_84 rfl ?_
      refine go_getI' (v := (h1.1 82 2)) dX12_name_85 f12_284 sh82 (fun _ _ => rfl) rfl ?_
      refine go_aload_n (x := 82) dX12_name_88 rfl ?_
      refine go_getI' (v := (h1.1 82 45)) dX12_name_89 f12_329 sh82 (fun _ _ => rfl) rfl ?_
      refine go_isub dX12_name_92 ?_
      refine go_bipush (v := 6) dX12_name_93 rfl ?_
      refine go_icmp_ne 109 dX12_name_95 rfl (fun q => ?_) (fun q => ?_)
      · replace vc := vc.1 q
        refine go_ldc2 (v := 27) dX12_name_109 nX12_332 ?_
        refine go_lload_n (x := x1) dX12_name_112 rfl ?_
        refine go_lmul dX12_name_113 ?_
        refine go_aload_n (x := 82) dX12_name_114 rfl ?_
        refine go_getR (x := 83) dX12_name_115 f12_7 sh82 (fun _ _ => rfl) (rf82_0 hR) ?_
        refine go_aload_n (x := 82) dX12_name_118 rfl ?_
        refine go_getI' (v := (h1.1 82 2)) dX12_name_119 f12_284 sh82 (fun _ _ => rfl) rfl ?_
        refine go_iald' (v := (h1.1 83 ((h1.1 82 2) : Int32).toNatClampNeg)) dX12_name_122 sh83 vc.1 rfl ?_
        have vc := vc.2
        refine go_i2l dX12_name_123 ?_
        refine go_ladd dX12_name_124 ?_
        refine go_ldc2 (v := 97) dX12_name_125 nX12_334 ?_
        refine go_lsub dX12_name_128 ?_
        refine go_lconst (v := 1) dX12_name_129 rfl ?_
        refine go_ladd dX12_name_130 ?_
        refine go_lstore_n dX12_name_131 (Nat.le_of_ble_eq_true rfl) ?_
        show gg p l e s m args below meth c G (d + 1) MX12_name Q 132 [some (.ref 82), some (.long ((((27 * x1) + ((h1.1 83 ((h1.1 82 2) : Int32).toNatClampNeg) : Int32).toInt64) - 97) + 1)), none] [] h1
        refine go_aload_n (x := 82) dX12_name_132 rfl ?_
        refine go_dup dX12_name_133 rfl ?_
        refine go_getI' (v := (h1.1 82 2)) dX12_name_134 f12_284 sh82 (fun _ _ => rfl) rfl ?_
        refine go_iconst (v := 1) dX12_name_137 rfl ?_
        refine go_iadd dX12_name_138 ?_
        refine go_putI dX12_name_139 f12_284 sh82 rfl rfl ?_
        refine go_goto 58 dX12_name_142 rfl ?_
        exact vc
      · replace vc := vc.2 q
        refine go_aload_n (x := 82) dX12_name_98 rfl ?_
        refine go_iconst (v := 1) dX12_name_99 rfl ?_
        refine go_aload_n (x := 82) dX12_name_100 rfl ?_
        refine go_getI' (v := (h1.1 82 2)) dX12_name_101 f12_284 sh82 (fun _ _ => rfl) rfl ?_
        refine gvV2 MX12_fail dX12_name_104 lX12_308 kX12_fail vX12_fail sh82 (by decide) rfl (Nat.le_of_ble_eq_true rfl) vc ?_
        intro h2 vc
        obtain ⟨hR2, vc⟩ := vc
        replace hR := hR2.trans hR
        refine go_lconst (v := 0) dX12_name_107 rfl ?_
        exact go_lret dX12_name_108 rfl vc rfl (Nat.le_refl _) (Nat.le_refl _)
set_option maxRecDepth 20000 in
theorem wX12_isFull_0 {p : Program} {l : Launch} {e : Env} {s : State} {m : MethodId} {args : Array Value} {below : List Frame} {meth : Method} {c : Code} {G : gG} {d : Nat} {Q : Option Value → gH → Prop} {h : gH} {lk sp : Nat} {cd : Option Nat} {a1 : Int32} {a2 : Int32} {a3 : Int32} (hR : h.2.2 = gRF lk sp cd) (hlk : lk = 30 ∨ lk = 67) (hsp : sp = 30 ∨ sp = 67)  (vc : ((¬ (h.1 82 5) = 0 → (((h.1 82 5) = 0 → Q (some (.int 0)) h) ∧ (¬ (h.1 82 5) = 0 → Q (some (.int 1)) h))) ∧ ((h.1 82 5) = 0 → (vp_in a1 10 ∧ ((¬ (h.1 119 a1.toNatClampNeg) = a2 → (((h.1 82 5) = 0 → Q (some (.int 0)) h) ∧ (¬ (h.1 82 5) = 0 → Q (some (.int 1)) h))) ∧ ((h.1 119 a1.toNatClampNeg) = a2 → gC l G d MX12_fail [.ref 82, .int 5, .int a3] h (rV fun h1 => h1.2.2 = (h).2.2 ∧ (((h1.1 82 5) = 0 → Q (some (.int 0)) h1) ∧ (¬ (h1.1 82 5) = 0 → Q (some (.int 1)) h1))))))))) : gg p l e s m args below meth c G (d + 1) MX12_isFull Q 0 [some (.ref 82), some (.int a1), some (.int a2), some (.int a3)] [] h := by
  refine go_aload_n (x := 82) dX12_isFull_0 rfl ?_
  refine go_getI' (v := (h.1 82 5)) dX12_isFull_1 f12_278 sh82 (fun _ _ => rfl) rfl ?_
  refine go_if_ne 23 dX12_isFull_4 rfl (fun q => ?_) (fun q => ?_)
  · replace vc := vc.1 q
    refine go_aload_n (x := 82) dX12_isFull_23 rfl ?_
    refine go_getI' (v := (h.1 82 5)) dX12_isFull_24 f12_278 sh82 (fun _ _ => rfl) rfl ?_
    refine go_if_eq 34 dX12_isFull_27 rfl (fun q => ?_) (fun q => ?_)
    · replace vc := vc.1 q
      refine go_iconst (v := 0) dX12_isFull_34 rfl ?_
      exact go_zret dX12_isFull_35 rfl (by decide) vc rfl (Nat.le_refl _) (Nat.le_refl _)
    · replace vc := vc.2 q
      refine go_iconst (v := 1) dX12_isFull_30 rfl ?_
      refine go_goto 35 dX12_isFull_31 rfl ?_
      exact go_zret dX12_isFull_35 rfl (by decide) vc rfl (Nat.le_refl _) (Nat.le_refl _)
  · replace vc := vc.2 q
    refine go_aload_n (x := 82) dX12_isFull_7 rfl ?_
    refine go_getR (x := 119) dX12_isFull_8 f12_123 sh82 (fun _ _ => rfl) (rf82_46 hR) ?_
    refine go_iload_n (x := a1) dX12_isFull_11 rfl ?_
    refine go_iald' (v := (h.1 119 a1.toNatClampNeg)) dX12_isFull_12 sh119 vc.1 rfl ?_
    have vc := vc.2
    refine go_iload_n (x := a2) dX12_isFull_13 rfl ?_
    refine go_icmp_ne 23 dX12_isFull_14 rfl (fun q => ?_) (fun q => ?_)
    · replace vc := vc.1 q
      refine go_aload_n (x := 82) dX12_isFull_23 rfl ?_
      refine go_getI' (v := (h.1 82 5)) dX12_isFull_24 f12_278 sh82 (fun _ _ => rfl) rfl ?_
      refine go_if_eq 34 dX12_isFull_27 rfl (fun q => ?_) (fun q => ?_)
      · replace vc := vc.1 q
        refine go_iconst (v := 0) dX12_isFull_34 rfl ?_
        exact go_zret dX12_isFull_35 rfl (by decide) vc rfl (Nat.le_refl _) (Nat.le_refl _)
      · replace vc := vc.2 q
        refine go_iconst (v := 1) dX12_isFull_30 rfl ?_
        refine go_goto 35 dX12_isFull_31 rfl ?_
        exact go_zret dX12_isFull_35 rfl (by decide) vc rfl (Nat.le_refl _) (Nat.le_refl _)
    · replace vc := vc.2 q
      refine go_aload_n (x := 82) dX12_isFull_17 rfl ?_
      refine go_iconst (v := 5) dX12_isFull_18 rfl ?_
      refine go_iload_n (x := a3) dX12_isFull_19 rfl ?_
      refine gvV2 MX12_fail dX12_isFull_20 lX12_308 kX12_fail vX12_fail sh82 (by decide) rfl (Nat.le_of_ble_eq_true rfl) vc ?_
      intro h1 vc
      obtain ⟨hR1, vc⟩ := vc
      replace hR := hR1.trans hR
      refine go_aload_n (x := 82) dX12_isFull_23 rfl ?_
      refine go_getI' (v := (h1.1 82 5)) dX12_isFull_24 f12_278 sh82 (fun _ _ => rfl) rfl ?_
      refine go_if_eq 34 dX12_isFull_27 rfl (fun q => ?_) (fun q => ?_)
      · replace vc := vc.1 q
        refine go_iconst (v := 0) dX12_isFull_34 rfl ?_
        exact go_zret dX12_isFull_35 rfl (by decide) vc rfl (Nat.le_refl _) (Nat.le_refl _)
      · replace vc := vc.2 q
        refine go_iconst (v := 1) dX12_isFull_30 rfl ?_
        refine go_goto 35 dX12_isFull_31 rfl ?_
        exact go_zret dX12_isFull_35 rfl (by decide) vc rfl (Nat.le_refl _) (Nat.le_refl _)
set_option maxRecDepth 20000 in
theorem wX12_nameOf_0 {p : Program} {l : Launch} {e : Env} {s : State} {m : MethodId} {args : Array Value} {below : List Frame} {meth : Method} {c : Code} {G : gG} {d : Nat} {Q : Option Value → gH → Prop} {h : gH} {lk sp : Nat} {cd : Option Nat} {a1 : Int32} {a2 : Int64} (hR : h.2.2 = gRF lk sp cd) (hlk : lk = 30 ∨ lk = 67) (hsp : sp = 30 ∨ sp = 67)  (vc : gg p l e s m args below meth c G d MX12_nameOf Q 3 [some (.ref 82), some (.int a1), some (.long a2), none, some (.int 0)] [] h) : gg p l e s m args below meth c G d MX12_nameOf Q 0 [some (.ref 82), some (.int a1), some (.long a2), none, none] [] h := by
  refine go_iconst (v := 0) dX12_nameOf_0 rfl ?_
  refine go_istore dX12_nameOf_1 (Nat.le_of_ble_eq_true rfl) ?_
  show gg p l e s m args below meth c G d MX12_nameOf Q 3 [some (.ref 82), some (.int a1), some (.long a2), none, some (.int 0)] [] h
  exact vc
set_option maxRecDepth 20000 in
theorem wX12_nameOf_3 {p : Program} {l : Launch} {e : Env} {s : State} {m : MethodId} {args : Array Value} {below : List Frame} {meth : Method} {c : Code} {G : gG} {d : Nat} {Q : Option Value → gH → Prop} {h : gH} {lk sp : Nat} {cd : Option Nat} {x1 : Int32} {x2 : Int64} {x4 : Int32} (hR : h.2.2 = gRF lk sp cd) (hlk : lk = 30 ∨ lk = 67) (hsp : sp = 30 ∨ sp = 67)  (vc : (vp_in ((2 + x1)) 10 ∧ (((h.1 119 ((2 + x1) : Int32).toNatClampNeg) ≤ x4 → Q (some (.int (-1))) h) ∧ (¬ (h.1 119 ((2 + x1) : Int32).toNatClampNeg) ≤ x4 → (vp_in (((6 * x1) + x4)) 24 ∧ ((¬ (lg_cmp (h.2.1 120 (((6 * x1) + x4) : Int32).toNatClampNeg) x2) = 0 → gg p l e s m args below meth c G d MX12_nameOf Q 3 [some (.ref 82), some (.int x1), some (.long x2), none, some (.int (x4 + 1))] [] h) ∧ ((lg_cmp (h.2.1 120 (((6 * x1) + x4) : Int32).toNatClampNeg) x2) = 0 → Q (some (.int x4)) h))))))) : gg p l e s m args below meth c G d MX12_nameOf Q 3 [some (.ref 82), some (.int x1), some (.long x2), none, some (.int x4)] [] h := by
  refine go_iload (x := x4) dX12_nameOf_3 rfl ?_
  refine go_aload_n (x := 82) dX12_nameOf_5 rfl ?_
  refine go_getR (x := 119) dX12_nameOf_6 f12_123 sh82 (fun _ _ => rfl) (rf82_46 hR) ?_
  refine go_iconst (v := 2) dX12_nameOf_9 rfl ?_
  refine go_iload_n (x := x1) dX12_nameOf_10 rfl ?_
  refine go_iadd dX12_nameOf_11 ?_
  refine go_iald' (v := (h.1 119 ((2 + x1) : Int32).toNatClampNeg)) dX12_nameOf_12 sh119 vc.1 rfl ?_
  have vc := vc.2
  refine go_icmp_ge 42 dX12_nameOf_13 rfl (fun q => ?_) (fun q => ?_)
  · replace vc := vc.1 q
    refine go_iconst (v := (-1)) dX12_nameOf_42 rfl ?_
    exact go_iret dX12_nameOf_43 rfl vc rfl (Nat.le_refl _) (Nat.le_refl _)
  · replace vc := vc.2 q
    refine go_aload_n (x := 82) dX12_nameOf_16 rfl ?_
    refine go_getR (x := 120) dX12_nameOf_17 f12_126 sh82 (fun _ _ => rfl) (rf82_47 hR) ?_
    refine go_bipush (v := 6) dX12_nameOf_20 rfl ?_
    refine go_iload_n (x := x1) dX12_nameOf_22 rfl ?_
    refine go_imul dX12_nameOf_23 ?_
    refine go_iload (x := x4) dX12_nameOf_24 rfl ?_
    refine go_iadd dX12_nameOf_26 ?_
    refine go_lald' (v := (h.2.1 120 (((6 * x1) + x4) : Int32).toNatClampNeg)) dX12_nameOf_27 sh120 vc.1 rfl ?_
    have vc := vc.2
    refine go_lload_n (x := x2) dX12_nameOf_28 rfl ?_
    refine go_lcmp dX12_nameOf_29 ?_
    refine go_if_ne 36 dX12_nameOf_30 rfl (fun q => ?_) (fun q => ?_)
    · replace vc := vc.1 q
      refine go_iinc (x := x4) dX12_nameOf_36 rfl ?_
      show gg p l e s m args below meth c G d MX12_nameOf Q 39 [some (.ref 82), some (.int x1), some (.long x2), none, some (.int (x4 + 1))] [] h
      refine go_goto 3 dX12_nameOf_39 rfl ?_
      exact vc
    · replace vc := vc.2 q
      refine go_iload (x := x4) dX12_nameOf_33 rfl ?_
      exact go_iret dX12_nameOf_35 rfl vc rfl (Nat.le_refl _) (Nat.le_refl _)
set_option maxRecDepth 20000 in
theorem wX12_newName_0 {p : Program} {l : Launch} {e : Env} {s : State} {m : MethodId} {args : Array Value} {below : List Frame} {meth : Method} {c : Code} {G : gG} {d : Nat} {Q : Option Value → gH → Prop} {h : gH} {lk sp : Nat} {cd : Option Nat}  (hR : h.2.2 = gRF lk sp cd) (hlk : lk = 30 ∨ lk = 67) (hsp : sp = 30 ∨ sp = 67)  (vc : gC l G d MX12_name [.ref 82] h (rL fun v1 h1 => h1.2.2 = (h).2.2 ∧ gg p l e s m args below meth c G (d + 1) MX12_newName Q 7 [some (.ref 82), some (.long v1), none, some (.int 0)] [] h1)) : gg p l e s m args below meth c G (d + 1) MX12_newName Q 0 [some (.ref 82), none, none, none] [] h := by
  refine go_aload_n (x := 82) dX12_newName_0 rfl ?_
  refine gvL0 MX12_name dX12_newName_1 lX12_336 kX12_name vX12_name sh82 (by decide) rfl (Nat.le_of_ble_eq_true rfl) vc ?_
  intro v1 h1 vc
  obtain ⟨hR1, vc⟩ := vc
  replace hR := hR1.trans hR
  refine go_lstore_n dX12_newName_4 (Nat.le_of_ble_eq_true rfl) ?_
  show gg p l e s m args below meth c G (d + 1) MX12_newName Q 5 [some (.ref 82), some (.long v1), none, none] [] h1
  refine go_iconst (v := 0) dX12_newName_5 rfl ?_
  refine go_istore_n dX12_newName_6 (Nat.le_of_ble_eq_true rfl) ?_
  show gg p l e s m args below meth c G (d + 1) MX12_newName Q 7 [some (.ref 82), some (.long v1), none, some (.int 0)] [] h1
  exact vc
set_option maxRecDepth 20000 in
theorem wX12_newName_7 {p : Program} {l : Launch} {e : Env} {s : State} {m : MethodId} {args : Array Value} {below : List Frame} {meth : Method} {c : Code} {G : gG} {d : Nat} {Q : Option Value → gH → Prop} {h : gH} {lk sp : Nat} {cd : Option Nat} {x1 : Int64} {x3 : Int32} (hR : h.2.2 = gRF lk sp cd) (hlk : lk = 30 ∨ lk = 67) (hsp : sp = 30 ∨ sp = 67)  (vc : ((2 ≤ x3 → Q (some (.long x1)) h) ∧ (¬ 2 ≤ x3 → ((¬ (h.1 82 5) = 0 → gg p l e s m args below meth c G (d + 1) MX12_newName Q 7 [some (.ref 82), some (.long x1), none, some (.int (x3 + 1))] [] h) ∧ ((h.1 82 5) = 0 → gC l G d MX12_nameOf [.ref 82, .int x3, .long x1] h (rI fun v1 h1 => h1.2.2 = (h).2.2 ∧ ((v1 = (-1) → gg p l e s m args below meth c G (d + 1) MX12_newName Q 7 [some (.ref 82), some (.long x1), none, some (.int (x3 + 1))] [] h1) ∧ (¬ v1 = (-1) → gC l G d MX12_fail [.ref 82, .int 3, .int (h1.1 82 45)] h1 (rV fun h2 => h2.2.2 = (h1).2.2 ∧ gg p l e s m args below meth c G (d + 1) MX12_newName Q 7 [some (.ref 82), some (.long x1), none, some (.int (x3 + 1))] [] h2))))))))) : gg p l e s m args below meth c G (d + 1) MX12_newName Q 7 [some (.ref 82), some (.long x1), none, some (.int x3)] [] h := by
  refine go_iload_n (x := x3) dX12_newName_7 rfl ?_
  refine go_iconst (v := 2) dX12_newName_8 rfl ?_
  refine go_icmp_ge 44 dX12_newName_9 rfl (fun q => ?_) (fun q => ?_)
  · replace vc := vc.1 q
    refine go_lload_n (x := x1) dX12_newName_44 rfl ?_
    exact go_lret dX12_newName_45 rfl vc rfl (Nat.le_refl _) (Nat.le_refl _)
  · replace vc := vc.2 q
    refine go_aload_n (x := 82) dX12_newName_12 rfl ?_
    refine go_getI' (v := (h.1 82 5)) dX12_newName_13 f12_278 sh82 (fun _ _ => rfl) rfl ?_
    refine go_if_ne 38 dX12_newName_16 rfl (fun q => ?_) (fun q => ?_)
    · replace vc := vc.1 q
      refine go_iinc (x := x3) dX12_newName_38 rfl ?_
      show gg p l e s m args below meth c G (d + 1) MX12_newName Q 41 [some (.ref 82), some (.long x1), none, some (.int (x3 + 1))] [] h
      refine go_goto 7 dX12_newName_41 rfl ?_
      exact vc
    · replace vc := vc.2 q
      refine go_aload_n (x := 82) dX12_newName_19 rfl ?_
      refine go_iload_n (x := x3) dX12_newName_20 rfl ?_
      refine go_lload_n (x := x1) dX12_newName_21 rfl ?_
      refine gvI2 MX12_nameOf dX12_newName_22 lX12_340 kX12_nameOf vX12_nameOf sh82 (by decide) rfl (Nat.le_of_ble_eq_true rfl) vc ?_
      intro v1 h1 vc
      obtain ⟨hR1, vc⟩ := vc
      replace hR := hR1.trans hR
      refine go_iconst (v := (-1)) dX12_newName_25 rfl ?_
      refine go_icmp_eq 38 dX12_newName_26 rfl (fun q => ?_) (fun q => ?_)
      · replace vc := vc.1 q
        refine go_iinc (x := x3) dX12_newName_38 rfl ?_
        show gg p l e s m args below meth c G (d + 1) MX12_newName Q 41 [some (.ref 82), some (.long x1), none, some (.int (x3 + 1))] [] h1
        refine go_goto 7 dX12_newName_41 rfl ?_
        exact vc
      · replace vc := vc.2 q
        refine go_aload_n (x := 82) dX12_newName_29 rfl ?_
        refine go_iconst (v := 3) dX12_newName_30 rfl ?_
        refine go_aload_n (x := 82) dX12_newName_31 rfl ?_
        refine go_getI' (v := (h1.1 82 45)) dX12_newName_32 f12_329 sh82 (fun _ _ => rfl) rfl ?_
        refine gvV2 MX12_fail dX12_newName_35 lX12_308 kX12_fail vX12_fail sh82 (by decide) rfl (Nat.le_of_ble_eq_true rfl) vc ?_
        intro h2 vc
        obtain ⟨hR2, vc⟩ := vc
        replace hR := hR2.trans hR
        refine go_iinc (x := x3) dX12_newName_38 rfl ?_
        show gg p l e s m args below meth c G (d + 1) MX12_newName Q 41 [some (.ref 82), some (.long x1), none, some (.int (x3 + 1))] [] h2
        refine go_goto 7 dX12_newName_41 rfl ?_
        exact vc
set_option maxRecDepth 20000 in
theorem wX12_oneOf_0 {p : Program} {l : Launch} {e : Env} {s : State} {m : MethodId} {args : Array Value} {below : List Frame} {meth : Method} {c : Code} {G : gG} {d : Nat} {Q : Option Value → gH → Prop} {h : gH} {lk sp : Nat} {cd : Option Nat} {a1 : Int32} (hR : h.2.2 = gRF lk sp cd) (hlk : lk = 30 ∨ lk = 67) (hsp : sp = 30 ∨ sp = 67)  (vc : gC l G d MX12_name [.ref 82] h (rL fun v1 h1 => h1.2.2 = (h).2.2 ∧ gC l G d MX12_nameOf [.ref 82, .int a1, .long v1] h1 (rI fun v2 h2 => h2.2.2 = (h1).2.2 ∧ ((¬ (h2.1 82 5) = 0 → ((¬ (h2.1 82 5) = 0 → Q (some (.int 0)) h2) ∧ ((h2.1 82 5) = 0 → Q (some (.int v2)) h2))) ∧ ((h2.1 82 5) = 0 → ((¬ v2 = (-1) → ((¬ (h2.1 82 5) = 0 → Q (some (.int 0)) h2) ∧ ((h2.1 82 5) = 0 → Q (some (.int v2)) h2))) ∧ (v2 = (-1) → gC l G d MX12_fail [.ref 82, .int 3, .int (h2.1 82 45)] h2 (rV fun h3 => h3.2.2 = (h2).2.2 ∧ ((¬ (h3.1 82 5) = 0 → Q (some (.int 0)) h3) ∧ ((h3.1 82 5) = 0 → Q (some (.int v2)) h3)))))))))) : gg p l e s m args below meth c G (d + 1) MX12_oneOf Q 0 [some (.ref 82), some (.int a1), none, none, none] [] h := by
  refine go_aload_n (x := 82) dX12_oneOf_0 rfl ?_
  refine gvL0 MX12_name dX12_oneOf_1 lX12_336 kX12_name vX12_name sh82 (by decide) rfl (Nat.le_of_ble_eq_true rfl) vc ?_
  intro v1 h1 vc
  obtain ⟨hR1, vc⟩ := vc
  replace hR := hR1.trans hR
  refine go_lstore_n dX12_oneOf_4 (Nat.le_of_ble_eq_true rfl) ?_
  show gg p l e s m args below meth c G (d + 1) MX12_oneOf Q 5 [some (.ref 82), some (.int a1), some (.long v1), none, none] [] h1
  refine go_aload_n (x := 82) dX12_oneOf_5 rfl ?_
  refine go_iload_n (x := a1) dX12_oneOf_6 rfl ?_
  refine go_lload_n (x := v1) dX12_oneOf_7 rfl ?_
  refine gvI2 MX12_nameOf dX12_oneOf_8 lX12_340 kX12_nameOf vX12_nameOf sh82 (by decide) rfl (Nat.le_of_ble_eq_true rfl) vc ?_
  intro v2 h2 vc
  obtain ⟨hR2, vc⟩ := vc
  replace hR := hR2.trans hR
  refine go_istore dX12_oneOf_11 (Nat.le_of_ble_eq_true rfl) ?_
  show gg p l e s m args below meth c G (d + 1) MX12_oneOf Q 13 [some (.ref 82), some (.int a1), some (.long v1), none, some (.int v2)] [] h2
  refine go_aload_n (x := 82) dX12_oneOf_13 rfl ?_
  refine go_getI' (v := (h2.1 82 5)) dX12_oneOf_14 f12_278 sh82 (fun _ _ => rfl) rfl ?_
  refine go_if_ne 35 dX12_oneOf_17 rfl (fun q => ?_) (fun q => ?_)
  · replace vc := vc.1 q
    refine go_aload_n (x := 82) dX12_oneOf_35 rfl ?_
    refine go_getI' (v := (h2.1 82 5)) dX12_oneOf_36 f12_278 sh82 (fun _ _ => rfl) rfl ?_
    refine go_if_ne 47 dX12_oneOf_39 rfl (fun q => ?_) (fun q => ?_)
    · replace vc := vc.1 q
      refine go_iconst (v := 0) dX12_oneOf_47 rfl ?_
      exact go_iret dX12_oneOf_48 rfl vc rfl (Nat.le_refl _) (Nat.le_refl _)
    · replace vc := vc.2 q
      refine go_iload (x := v2) dX12_oneOf_42 rfl ?_
      refine go_goto 48 dX12_oneOf_44 rfl ?_
      exact go_iret dX12_oneOf_48 rfl vc rfl (Nat.le_refl _) (Nat.le_refl _)
  · replace vc := vc.2 q
    refine go_iload (x := v2) dX12_oneOf_20 rfl ?_
    refine go_iconst (v := (-1)) dX12_oneOf_22 rfl ?_
    refine go_icmp_ne 35 dX12_oneOf_23 rfl (fun q => ?_) (fun q => ?_)
    · replace vc := vc.1 q
      refine go_aload_n (x := 82) dX12_oneOf_35 rfl ?_
      refine go_getI' (v := (h2.1 82 5)) dX12_oneOf_36 f12_278 sh82 (fun _ _ => rfl) rfl ?_
      refine go_if_ne 47 dX12_oneOf_39 rfl (fun q => ?_) (fun q => ?_)
      · replace vc := vc.1 q
        refine go_iconst (v := 0) dX12_oneOf_47 rfl ?_
        exact go_iret dX12_oneOf_48 rfl vc rfl (Nat.le_refl _) (Nat.le_refl _)
      · replace vc := vc.2 q
        refine go_iload (x := v2) dX12_oneOf_42 rfl ?_
        refine go_goto 48 dX12_oneOf_44 rfl ?_
        exact go_iret dX12_oneOf_48 rfl vc rfl (Nat.le_refl _) (Nat.le_refl _)
    · replace vc := vc.2 q
      refine go_aload_n (x := 82) dX12_oneOf_26 rfl ?_
      refine go_iconst (v := 3) dX12_oneOf_27 rfl ?_
      refine go_aload_n (x := 82) dX12_oneOf_28 rfl ?_
      refine go_getI' (v := (h2.1 82 45)) dX12_oneOf_29 f12_329 sh82 (fun _ _ => rfl) rfl ?_
      refine gvV2 MX12_fail dX12_oneOf_32 lX12_308 kX12_fail vX12_fail sh82 (by decide) rfl (Nat.le_of_ble_eq_true rfl) vc ?_
      intro h3 vc
      obtain ⟨hR3, vc⟩ := vc
      replace hR := hR3.trans hR
      refine go_aload_n (x := 82) dX12_oneOf_35 rfl ?_
      refine go_getI' (v := (h3.1 82 5)) dX12_oneOf_36 f12_278 sh82 (fun _ _ => rfl) rfl ?_
      refine go_if_ne 47 dX12_oneOf_39 rfl (fun q => ?_) (fun q => ?_)
      · replace vc := vc.1 q
        refine go_iconst (v := 0) dX12_oneOf_47 rfl ?_
        exact go_iret dX12_oneOf_48 rfl vc rfl (Nat.le_refl _) (Nat.le_refl _)
      · replace vc := vc.2 q
        refine go_iload (x := v2) dX12_oneOf_42 rfl ?_
        refine go_goto 48 dX12_oneOf_44 rfl ?_
        exact go_iret dX12_oneOf_48 rfl vc rfl (Nat.le_refl _) (Nat.le_refl _)
set_option maxRecDepth 20000 in
theorem wX12_lakeTold_0 {p : Program} {l : Launch} {e : Env} {s : State} {m : MethodId} {args : Array Value} {below : List Frame} {meth : Method} {c : Code} {G : gG} {d : Nat} {Q : Option Value → gH → Prop} {h : gH} {lk sp : Nat} {cd : Option Nat}  (hR : h.2.2 = gRF lk sp cd) (hlk : lk = 30 ∨ lk = 67) (hsp : sp = 30 ∨ sp = 67)  (vc : gC l G d MX12_asks [.ref 82, .ref 85] h (rV fun h1 => h1.2.2 = (h).2.2 ∧ gC l G d MX12_number [.ref 82, .int 3, .int 8] h1 (rI fun v2 h2 => h2.2.2 = (h1).2.2 ∧ gC l G d MX12_asksSign [.ref 82, .int 59] (sI h2 119 0 v2) (rV fun h3 => h3.2.2 = ((sI h2 119 0 v2)).2.2 ∧ Q none h3)))) : gg p l e s m args below meth c G (d + 1) MX12_lakeTold Q 0 [some (.ref 82)] [] h := by
  refine go_aload_n (x := 82) dX12_lakeTold_0 rfl ?_
  refine go_aload_n (x := 82) dX12_lakeTold_1 rfl ?_
  refine go_getR (x := 85) dX12_lakeTold_2 f12_20 sh82 (fun _ _ => rfl) (rf82_11 hR) ?_
  refine gvV1 MX12_asks dX12_lakeTold_5 lX12_344 kX12_asks vX12_asks sh82 (by decide) rfl (Nat.le_of_ble_eq_true rfl) vc ?_
  intro h1 vc
  obtain ⟨hR1, vc⟩ := vc
  replace hR := hR1.trans hR
  refine go_aload_n (x := 82) dX12_lakeTold_8 rfl ?_
  refine go_getR (x := 119) dX12_lakeTold_9 f12_123 sh82 (fun _ _ => rfl) (rf82_46 hR) ?_
  refine go_iconst (v := 0) dX12_lakeTold_12 rfl ?_
  refine go_aload_n (x := 82) dX12_lakeTold_13 rfl ?_
  refine go_iconst (v := 3) dX12_lakeTold_14 rfl ?_
  refine go_bipush (v := 8) dX12_lakeTold_15 rfl ?_
  refine gvI2 MX12_number dX12_lakeTold_17 lX12_348 kX12_number vX12_number sh82 (by decide) rfl (Nat.le_of_ble_eq_true rfl) vc ?_
  intro v2 h2 vc
  obtain ⟨hR2, vc⟩ := vc
  replace hR := hR2.trans hR
  refine go_iast dX12_lakeTold_20 sh119 (by unfold vp_in; decide) ?_
  refine go_aload_n (x := 82) dX12_lakeTold_21 rfl ?_
  refine go_bipush (v := 59) dX12_lakeTold_22 rfl ?_
  refine gvV1 MX12_asksSign dX12_lakeTold_24 lX12_352 kX12_asksSign vX12_asksSign sh82 (by decide) rfl (Nat.le_of_ble_eq_true rfl) vc ?_
  intro h3 vc
  obtain ⟨hR3, vc⟩ := vc
  replace hR := hR3.trans hR
  exact go_vret dX12_lakeTold_27 rfl vc rfl (Nat.le_refl _) (Nat.le_refl _)
set_option maxRecDepth 20000 in
theorem wX12_kindOf_0 {p : Program} {l : Launch} {e : Env} {s : State} {m : MethodId} {args : Array Value} {below : List Frame} {meth : Method} {c : Code} {G : gG} {d : Nat} {Q : Option Value → gH → Prop} {h : gH} {lk sp : Nat} {cd : Option Nat} {a1 : Int32} (hR : h.2.2 = gRF lk sp cd) (hlk : lk = 30 ∨ lk = 67) (hsp : sp = 30 ∨ sp = 67)  (vc : ((a1 = 100 → Q (some (.int 2)) h) ∧ (a1 = 104 → Q (some (.int 0)) h) ∧ (a1 = 108 → Q (some (.int 9)) h) ∧ (a1 = 115 → Q (some (.int 1)) h) ∧ (a1 = 119 → Q (some (.int 3)) h) ∧ (¬ a1 = 100 → ¬ a1 = 104 → ¬ a1 = 108 → ¬ a1 = 115 → ¬ a1 = 119 → Q (some (.int (-1))) h))) : gg p l e s m args below meth c G d MX12_kindOf Q 0 [some (.int a1)] [] h := by
  refine go_iload_n (x := a1) dX12_kindOf_0 rfl ?_
  by_cases q0 : a1 = 100
  · refine go_lookup (off := 55) 56 dX12_kindOf_1 (by decide) (by rw [q0]; rfl) rfl ?_
    replace vc := vc.1 q0
    refine go_iconst (v := 2) dX12_kindOf_56 rfl ?_
    exact go_iret dX12_kindOf_57 rfl vc rfl (Nat.le_refl _) (Nat.le_refl _)
  by_cases q1 : a1 = 104
  · refine go_lookup (off := 51) 52 dX12_kindOf_1 (by decide) (by rw [q1]; rfl) rfl ?_
    replace vc := vc.2.1 q1
    refine go_iconst (v := 0) dX12_kindOf_52 rfl ?_
    exact go_iret dX12_kindOf_53 rfl vc rfl (Nat.le_refl _) (Nat.le_refl _)
  by_cases q2 : a1 = 108
  · refine go_lookup (off := 59) 60 dX12_kindOf_1 (by decide) (by rw [q2]; rfl) rfl ?_
    replace vc := vc.2.2.1 q2
    refine go_bipush (v := 9) dX12_kindOf_60 rfl ?_
    exact go_iret dX12_kindOf_62 rfl vc rfl (Nat.le_refl _) (Nat.le_refl _)
  by_cases q3 : a1 = 115
  · refine go_lookup (off := 53) 54 dX12_kindOf_1 (by decide) (by rw [q3]; rfl) rfl ?_
    replace vc := vc.2.2.2.1 q3
    refine go_iconst (v := 1) dX12_kindOf_54 rfl ?_
    exact go_iret dX12_kindOf_55 rfl vc rfl (Nat.le_refl _) (Nat.le_refl _)
  by_cases q4 : a1 = 119
  · refine go_lookup (off := 57) 58 dX12_kindOf_1 (by decide) (by rw [q4]; rfl) rfl ?_
    replace vc := vc.2.2.2.2.1 q4
    refine go_iconst (v := 3) dX12_kindOf_58 rfl ?_
    exact go_iret dX12_kindOf_59 rfl vc rfl (Nat.le_refl _) (Nat.le_refl _)
  replace vc := vc.2.2.2.2.2 q0 q1 q2 q3 q4
  refine go_lookup 63 dX12_kindOf_1 (by decide) ((lv_osw q0 rfl).trans ((lv_osw q1 rfl).trans ((lv_osw q2 rfl).trans ((lv_osw q3 rfl).trans ((lv_osw q4 rfl).trans rfl))))) rfl ?_
  refine go_iconst (v := (-1)) dX12_kindOf_63 rfl ?_
  exact go_iret dX12_kindOf_64 rfl vc rfl (Nat.le_refl _) (Nat.le_refl _)
set_option maxRecDepth 20000 in
theorem wX12_rowTold_0 {p : Program} {l : Launch} {e : Env} {s : State} {m : MethodId} {args : Array Value} {below : List Frame} {meth : Method} {c : Code} {G : gG} {d : Nat} {Q : Option Value → gH → Prop} {h : gH} {lk sp : Nat} {cd : Option Nat} {a1 : Int32} (hR : h.2.2 = gRF lk sp cd) (hlk : lk = 30 ∨ lk = 67) (hsp : sp = 30 ∨ sp = 67)  (vc : gC l G d MX12_isFull [.ref 82, .int 1, .int 6, .int a1] h (rI fun v1 h1 => h1.2.2 = (h).2.2 ∧ ((v1 = 0 → gC l G d MX12_look [.ref 82] h1 (rI fun v2 h2 => h2.2.2 = (h1).2.2 ∧ ((¬ v2 = (-1) → (((h2.1 82 2) = (h2.1 82 4) → gg p l e s m args below meth c G (d + 1) MX12_rowTold Q 52 [some (.ref 82), some (.int a1), some (.int (h2.1 82 2)), some (.int 0), some (.int 0)] [] h2) ∧ (¬ (h2.1 82 2) = (h2.1 82 4) → gg p l e s m args below meth c G (d + 1) MX12_rowTold Q 52 [some (.ref 82), some (.int a1), some (.int (h2.1 82 2)), some (.int 0), some (.int 1)] [] h2))) ∧ (v2 = (-1) → (((h2.1 82 2) = (h2.1 82 4) → gg p l e s m args below meth c G (d + 1) MX12_rowTold Q 52 [some (.ref 82), some (.int a1), some (.int (h2.1 82 3)), some (.int 0), some (.int 0)] [] h2) ∧ (¬ (h2.1 82 2) = (h2.1 82 4) → gg p l e s m args below meth c G (d + 1) MX12_rowTold Q 52 [some (.ref 82), some (.int a1), some (.int (h2.1 82 3)), some (.int 0), some (.int 1)] [] h2)))))) ∧ (¬ v1 = 0 → Q none h1)))) : gg p l e s m args below meth c G (d + 1) MX12_rowTold Q 0 [some (.ref 82), some (.int a1), none, none, none] [] h := by
  refine go_aload_n (x := 82) dX12_rowTold_0 rfl ?_
  refine go_iconst (v := 1) dX12_rowTold_1 rfl ?_
  refine go_bipush (v := 6) dX12_rowTold_2 rfl ?_
  refine go_iload_n (x := a1) dX12_rowTold_4 rfl ?_
  refine gvI3 MX12_isFull dX12_rowTold_5 lX12_356 kX12_isFull vX12_isFull sh82 (by decide) rfl (Nat.le_of_ble_eq_true rfl) vc ?_
  intro v1 h1 vc
  obtain ⟨hR1, vc⟩ := vc
  replace hR := hR1.trans hR
  refine go_if_eq 12 dX12_rowTold_8 rfl (fun q => ?_) (fun q => ?_)
  · replace vc := vc.1 q
    refine go_aload_n (x := 82) dX12_rowTold_12 rfl ?_
    refine gvI0 MX12_look dX12_rowTold_13 lX12_290 kX12_look vX12_look sh82 (by decide) rfl (Nat.le_of_ble_eq_true rfl) vc ?_
    intro v2 h2 vc
    obtain ⟨hR2, vc⟩ := vc
    replace hR := hR2.trans hR
    refine go_iconst (v := (-1)) dX12_rowTold_16 rfl ?_
    refine go_icmp_ne 27 dX12_rowTold_17 rfl (fun q => ?_) (fun q => ?_)
    · replace vc := vc.1 q
      refine go_aload_n (x := 82) dX12_rowTold_27 rfl ?_
      refine go_getI' (v := (h2.1 82 2)) dX12_rowTold_28 f12_284 sh82 (fun _ _ => rfl) rfl ?_
      refine go_istore_n dX12_rowTold_31 (Nat.le_of_ble_eq_true rfl) ?_
      show gg p l e s m args below meth c G (d + 1) MX12_rowTold Q 32 [some (.ref 82), some (.int a1), some (.int (h2.1 82 2)), none, none] [] h2
      refine go_iconst (v := 0) dX12_rowTold_32 rfl ?_
      refine go_istore_n dX12_rowTold_33 (Nat.le_of_ble_eq_true rfl) ?_
      show gg p l e s m args below meth c G (d + 1) MX12_rowTold Q 34 [some (.ref 82), some (.int a1), some (.int (h2.1 82 2)), some (.int 0), none] [] h2
      refine go_aload_n (x := 82) dX12_rowTold_34 rfl ?_
      refine go_getI' (v := (h2.1 82 2)) dX12_rowTold_35 f12_284 sh82 (fun _ _ => rfl) rfl ?_
      refine go_aload_n (x := 82) dX12_rowTold_38 rfl ?_
      refine go_getI' (v := (h2.1 82 4)) dX12_rowTold_39 f12_298 sh82 (fun _ _ => rfl) rfl ?_
      refine go_icmp_eq 49 dX12_rowTold_42 rfl (fun q => ?_) (fun q => ?_)
      · replace vc := vc.1 q
        refine go_iconst (v := 0) dX12_rowTold_49 rfl ?_
        refine go_istore dX12_rowTold_50 (Nat.le_of_ble_eq_true rfl) ?_
        show gg p l e s m args below meth c G (d + 1) MX12_rowTold Q 52 [some (.ref 82), some (.int a1), some (.int (h2.1 82 2)), some (.int 0), some (.int 0)] [] h2
        exact vc
      · replace vc := vc.2 q
        refine go_iconst (v := 1) dX12_rowTold_45 rfl ?_
        refine go_goto 50 dX12_rowTold_46 rfl ?_
        refine go_istore dX12_rowTold_50 (Nat.le_of_ble_eq_true rfl) ?_
        show gg p l e s m args below meth c G (d + 1) MX12_rowTold Q 52 [some (.ref 82), some (.int a1), some (.int (h2.1 82 2)), some (.int 0), some (.int 1)] [] h2
        exact vc
    · replace vc := vc.2 q
      refine go_aload_n (x := 82) dX12_rowTold_20 rfl ?_
      refine go_getI' (v := (h2.1 82 3)) dX12_rowTold_21 f12_287 sh82 (fun _ _ => rfl) rfl ?_
      refine go_goto 31 dX12_rowTold_24 rfl ?_
      refine go_istore_n dX12_rowTold_31 (Nat.le_of_ble_eq_true rfl) ?_
      show gg p l e s m args below meth c G (d + 1) MX12_rowTold Q 32 [some (.ref 82), some (.int a1), some (.int (h2.1 82 3)), none, none] [] h2
      refine go_iconst (v := 0) dX12_rowTold_32 rfl ?_
      refine go_istore_n dX12_rowTold_33 (Nat.le_of_ble_eq_true rfl) ?_
      show gg p l e s m args below meth c G (d + 1) MX12_rowTold Q 34 [some (.ref 82), some (.int a1), some (.int (h2.1 82 3)), some (.int 0), none] [] h2
      refine go_aload_n (x := 82) dX12_rowTold_34 rfl ?_
      refine go_getI' (v := (h2.1 82 2)) dX12_rowTold_35 f12_284 sh82 (fun _ _ => rfl) rfl ?_
      refine go_aload_n (x := 82) dX12_rowTold_38 rfl ?_
      refine go_getI' (v := (h2.1 82 4)) dX12_rowTold_39 f12_298 sh82 (fun _ _ => rfl) rfl ?_
      refine go_icmp_eq 49 dX12_rowTold_42 rfl (fun q => ?_) (fun q => ?_)
      · replace vc := vc.1 q
        refine go_iconst (v := 0) dX12_rowTold_49 rfl ?_
        refine go_istore dX12_rowTold_50 (Nat.le_of_ble_eq_true rfl) ?_
        show gg p l e s m args below meth c G (d + 1) MX12_rowTold Q 52 [some (.ref 82), some (.int a1), some (.int (h2.1 82 3)), some (.int 0), some (.int 0)] [] h2
        exact vc
      · replace vc := vc.2 q
        refine go_iconst (v := 1) dX12_rowTold_45 rfl ?_
        refine go_goto 50 dX12_rowTold_46 rfl ?_
        refine go_istore dX12_rowTold_50 (Nat.le_of_ble_eq_true rfl) ?_
        show gg p l e s m args below meth c G (d + 1) MX12_rowTold Q 52 [some (.ref 82), some (.int a1), some (.int (h2.1 82 3)), some (.int 0), some (.int 1)] [] h2
        exact vc
  · replace vc := vc.2 q
    exact go_vret dX12_rowTold_11 rfl vc rfl (Nat.le_refl _) (Nat.le_refl _)
set_option maxRecDepth 20000 in
theorem wX12_rowTold_52 {p : Program} {l : Launch} {e : Env} {s : State} {m : MethodId} {args : Array Value} {below : List Frame} {meth : Method} {c : Code} {G : gG} {d : Nat} {Q : Option Value → gH → Prop} {h : gH} {lk sp : Nat} {cd : Option Nat} {x1 : Int32} {x2 : Int32} {x3 : Int32} {x4 : Int32} (hR : h.2.2 = gRF lk sp cd) (hlk : lk = 30 ∨ lk = 67) (hsp : sp = 30 ∨ sp = 67)  (vc : (((h.1 82 3) ≤ (h.1 82 2) → ((x4 = 0 → gC l G d MX12_fail [.ref 82, .int 1, .int x2] h (rV fun h1 => h1.2.2 = (h).2.2 ∧ Q none h1)) ∧ (¬ x4 = 0 → ((x3 = (h.1 119 0) → Q none (sI (sI h 82 4 (h.1 82 2)) 119 1 ((h.1 119 1) + 1))) ∧ (¬ x3 = (h.1 119 0) → gC l G d MX12_fail [.ref 82, .int 1, .int x2] h (rV fun h2 => h2.2.2 = (h).2.2 ∧ Q none h2)))))) ∧ (¬ (h.1 82 3) ≤ (h.1 82 2) → (vp_in ((h.1 82 2)) 1600 ∧ gC l G d MX12_isLetter [.int (h.1 83 ((h.1 82 2) : Int32).toNatClampNeg)] h (rI fun v3 h3 => h3.2.2 = (h).2.2 ∧ ((v3 = 0 → ((x4 = 0 → gC l G d MX12_fail [.ref 82, .int 1, .int x2] h3 (rV fun h4 => h4.2.2 = (h3).2.2 ∧ Q none h4)) ∧ (¬ x4 = 0 → ((x3 = (h3.1 119 0) → Q none (sI (sI h3 82 4 (h3.1 82 2)) 119 1 ((h3.1 119 1) + 1))) ∧ (¬ x3 = (h3.1 119 0) → gC l G d MX12_fail [.ref 82, .int 1, .int x2] h3 (rV fun h5 => h5.2.2 = (h3).2.2 ∧ Q none h5)))))) ∧ (¬ v3 = 0 → ((x4 = 0 → gg p l e s m args below meth c G (d + 1) MX12_rowTold Q 52 [some (.ref 82), some (.int x1), some (.int x2), some (.int (x3 + 1)), some (.int 0)] [] (sI h3 82 2 ((h3.1 82 2) + 1))) ∧ (¬ x4 = 0 → (((h3.1 119 0) ≤ x3 → gg p l e s m args below meth c G (d + 1) MX12_rowTold Q 52 [some (.ref 82), some (.int x1), some (.int x2), some (.int (x3 + 1)), some (.int 0)] [] (sI h3 82 2 ((h3.1 82 2) + 1))) ∧ (¬ (h3.1 119 0) ≤ x3 → (vp_in ((h3.1 82 2)) 1600 ∧ gC l G d MX12_kindOf [.int (h3.1 83 ((h3.1 82 2) : Int32).toNatClampNeg)] h3 (rI fun v6 h6 => h6.2.2 = (h3).2.2 ∧ ((v6 = (-1) → gg p l e s m args below meth c G (d + 1) MX12_rowTold Q 52 [some (.ref 82), some (.int x1), some (.int x2), some (.int (x3 + 1)), some (.int 0)] [] (sI h6 82 2 ((h6.1 82 2) + 1))) ∧ (¬ v6 = (-1) → (vp_in ((h6.1 82 2)) 1600 ∧ gC l G d MX12_kindOf [.int (h6.1 83 ((h6.1 82 2) : Int32).toNatClampNeg)] h6 (rI fun v7 h7 => h7.2.2 = (h6).2.2 ∧ (vp_in (((8 * (h6.1 119 1)) + x3)) 96 ∧ gg p l e s m args below meth c G (d + 1) MX12_rowTold Q 52 [some (.ref 82), some (.int x1), some (.int x2), some (.int (x3 + 1)), some (.int 1)] [] (sI (sI h7 121 (((8 * (h6.1 119 1)) + x3) : Int32).toNatClampNeg v7) 82 2 ((h7.1 82 2) + 1)))))))))))))))))))) : gg p l e s m args below meth c G (d + 1) MX12_rowTold Q 52 [some (.ref 82), some (.int x1), some (.int x2), some (.int x3), some (.int x4)] [] h := by
  refine go_aload_n (x := 82) dX12_rowTold_52 rfl ?_
  refine go_getI' (v := (h.1 82 2)) dX12_rowTold_53 f12_284 sh82 (fun _ _ => rfl) rfl ?_
  refine go_aload_n (x := 82) dX12_rowTold_56 rfl ?_
  refine go_getI' (v := (h.1 82 3)) dX12_rowTold_57 f12_287 sh82 (fun _ _ => rfl) rfl ?_
  refine go_icmp_ge 165 dX12_rowTold_60 rfl (fun q => ?_) (fun q => ?_)
  · replace vc := vc.1 q
    refine go_iload (x := x4) dX12_rowTold_165 rfl ?_
    refine go_if_eq 180 dX12_rowTold_167 rfl (fun q => ?_) (fun q => ?_)
    · replace vc := vc.1 q
      refine go_aload_n (x := 82) dX12_rowTold_180 rfl ?_
      refine go_iconst (v := 1) dX12_rowTold_181 rfl ?_
      refine go_iload_n (x := x2) dX12_rowTold_182 rfl ?_
      refine gvV2 MX12_fail dX12_rowTold_183 lX12_308 kX12_fail vX12_fail sh82 (by decide) rfl (Nat.le_of_ble_eq_true rfl) vc ?_
      intro h1 vc
      obtain ⟨hR1, vc⟩ := vc
      replace hR := hR1.trans hR
      exact go_vret dX12_rowTold_186 rfl vc rfl (Nat.le_refl _) (Nat.le_refl _)
    · replace vc := vc.2 q
      refine go_iload_n (x := x3) dX12_rowTold_170 rfl ?_
      refine go_aload_n (x := 82) dX12_rowTold_171 rfl ?_
      refine go_getR (x := 119) dX12_rowTold_172 f12_123 sh82 (fun _ _ => rfl) (rf82_46 hR) ?_
      refine go_iconst (v := 0) dX12_rowTold_175 rfl ?_
      refine go_iald' (v := (h.1 119 0)) dX12_rowTold_176 sh119 (by unfold vp_in; decide) rfl ?_
      refine go_icmp_eq 187 dX12_rowTold_177 rfl (fun q => ?_) (fun q => ?_)
      · replace vc := vc.1 q
        refine go_aload_n (x := 82) dX12_rowTold_187 rfl ?_
        refine go_aload_n (x := 82) dX12_rowTold_188 rfl ?_
        refine go_getI' (v := (h.1 82 2)) dX12_rowTold_189 f12_284 sh82 (fun _ _ => rfl) rfl ?_
        refine go_putI dX12_rowTold_192 f12_298 sh82 rfl rfl ?_
        refine go_aload_n (x := 82) dX12_rowTold_195 rfl ?_
        refine go_getR (x := 119) dX12_rowTold_196 f12_123 sh82 (fun _ _ => rfl) (rf82_46 hR) ?_
        refine go_iconst (v := 1) dX12_rowTold_199 rfl ?_
        refine go_dup2 dX12_rowTold_200 rfl rfl ?_
        refine go_iald' (v := (h.1 119 1)) dX12_rowTold_201 sh119 (by unfold vp_in; decide) rfl ?_
        refine go_iconst (v := 1) dX12_rowTold_202 rfl ?_
        refine go_iadd dX12_rowTold_203 ?_
        refine go_iast dX12_rowTold_204 sh119 (by unfold vp_in; decide) ?_
        exact go_vret dX12_rowTold_205 rfl vc rfl (Nat.le_refl _) (Nat.le_refl _)
      · replace vc := vc.2 q
        refine go_aload_n (x := 82) dX12_rowTold_180 rfl ?_
        refine go_iconst (v := 1) dX12_rowTold_181 rfl ?_
        refine go_iload_n (x := x2) dX12_rowTold_182 rfl ?_
        refine gvV2 MX12_fail dX12_rowTold_183 lX12_308 kX12_fail vX12_fail sh82 (by decide) rfl (Nat.le_of_ble_eq_true rfl) vc ?_
        intro h2 vc
        obtain ⟨hR2, vc⟩ := vc
        replace hR := hR2.trans hR
        exact go_vret dX12_rowTold_186 rfl vc rfl (Nat.le_refl _) (Nat.le_refl _)
  · replace vc := vc.2 q
    refine go_aload_n (x := 82) dX12_rowTold_63 rfl ?_
    refine go_getR (x := 83) dX12_rowTold_64 f12_7 sh82 (fun _ _ => rfl) (rf82_0 hR) ?_
    refine go_aload_n (x := 82) dX12_rowTold_67 rfl ?_
    refine go_getI' (v := (h.1 82 2)) dX12_rowTold_68 f12_284 sh82 (fun _ _ => rfl) rfl ?_
    refine go_iald' (v := (h.1 83 ((h.1 82 2) : Int32).toNatClampNeg)) dX12_rowTold_71 sh83 vc.1 rfl ?_
    have vc := vc.2
    refine gsI1 MX12_isLetter dX12_rowTold_72 lX12_294 kX12_isLetter sX12_isLetter (Nat.le_of_ble_eq_true rfl) vc ?_
    intro v3 h3 vc
    obtain ⟨hR3, vc⟩ := vc
    replace hR := hR3.trans hR
    refine go_if_eq 165 dX12_rowTold_75 rfl (fun q => ?_) (fun q => ?_)
    · replace vc := vc.1 q
      refine go_iload (x := x4) dX12_rowTold_165 rfl ?_
      refine go_if_eq 180 dX12_rowTold_167 rfl (fun q => ?_) (fun q => ?_)
      · replace vc := vc.1 q
        refine go_aload_n (x := 82) dX12_rowTold_180 rfl ?_
        refine go_iconst (v := 1) dX12_rowTold_181 rfl ?_
        refine go_iload_n (x := x2) dX12_rowTold_182 rfl ?_
        refine gvV2 MX12_fail dX12_rowTold_183 lX12_308 kX12_fail vX12_fail sh82 (by decide) rfl (Nat.le_of_ble_eq_true rfl) vc ?_
        intro h4 vc
        obtain ⟨hR4, vc⟩ := vc
        replace hR := hR4.trans hR
        exact go_vret dX12_rowTold_186 rfl vc rfl (Nat.le_refl _) (Nat.le_refl _)
      · replace vc := vc.2 q
        refine go_iload_n (x := x3) dX12_rowTold_170 rfl ?_
        refine go_aload_n (x := 82) dX12_rowTold_171 rfl ?_
        refine go_getR (x := 119) dX12_rowTold_172 f12_123 sh82 (fun _ _ => rfl) (rf82_46 hR) ?_
        refine go_iconst (v := 0) dX12_rowTold_175 rfl ?_
        refine go_iald' (v := (h3.1 119 0)) dX12_rowTold_176 sh119 (by unfold vp_in; decide) rfl ?_
        refine go_icmp_eq 187 dX12_rowTold_177 rfl (fun q => ?_) (fun q => ?_)
        · replace vc := vc.1 q
          refine go_aload_n (x := 82) dX12_rowTold_187 rfl ?_
          refine go_aload_n (x := 82) dX12_rowTold_188 rfl ?_
          refine go_getI' (v := (h3.1 82 2)) dX12_rowTold_189 f12_284 sh82 (fun _ _ => rfl) rfl ?_
          refine go_putI dX12_rowTold_192 f12_298 sh82 rfl rfl ?_
          refine go_aload_n (x := 82) dX12_rowTold_195 rfl ?_
          refine go_getR (x := 119) dX12_rowTold_196 f12_123 sh82 (fun _ _ => rfl) (rf82_46 hR) ?_
          refine go_iconst (v := 1) dX12_rowTold_199 rfl ?_
          refine go_dup2 dX12_rowTold_200 rfl rfl ?_
          refine go_iald' (v := (h3.1 119 1)) dX12_rowTold_201 sh119 (by unfold vp_in; decide) rfl ?_
          refine go_iconst (v := 1) dX12_rowTold_202 rfl ?_
          refine go_iadd dX12_rowTold_203 ?_
          refine go_iast dX12_rowTold_204 sh119 (by unfold vp_in; decide) ?_
          exact go_vret dX12_rowTold_205 rfl vc rfl (Nat.le_refl _) (Nat.le_refl _)
        · replace vc := vc.2 q
          refine go_aload_n (x := 82) dX12_rowTold_180 rfl ?_
          refine go_iconst (v := 1) dX12_rowTold_181 rfl ?_
          refine go_iload_n (x := x2) dX12_rowTold_182 rfl ?_
          refine gvV2 MX12_fail dX12_rowTold_183 lX12_308 kX12_fail vX12_fail sh82 (by decide) rfl (Nat.le_of_ble_eq_true rfl) vc ?_
          intro h5 vc
          obtain ⟨hR5, vc⟩ := vc
          replace hR := hR5.trans hR
          exact go_vret dX12_rowTold_186 rfl vc rfl (Nat.le_refl _) (Nat.le_refl _)
    · replace vc := vc.2 q
      refine go_iload (x := x4) dX12_rowTold_78 rfl ?_
      refine go_if_eq 113 dX12_rowTold_80 rfl (fun q => ?_) (fun q => ?_)
      · replace vc := vc.1 q
        refine go_iconst (v := 0) dX12_rowTold_113 rfl ?_
        refine go_istore dX12_rowTold_114 (Nat.le_of_ble_eq_true rfl) ?_
        show gg p l e s m args below meth c G (d + 1) MX12_rowTold Q 116 [some (.ref 82), some (.int x1), some (.int x2), some (.int x3), some (.int 0)] [] h3
        refine go_iload (x := 0) dX12_rowTold_116 rfl ?_
        refine go_if_eq 149 dX12_rowTold_118 rfl (fun q => ?_) (fun q => absurd q (by decide))
        refine go_iinc (x := x3) dX12_rowTold_149 rfl ?_
        show gg p l e s m args below meth c G (d + 1) MX12_rowTold Q 152 [some (.ref 82), some (.int x1), some (.int x2), some (.int (x3 + 1)), some (.int 0)] [] h3
        refine go_aload_n (x := 82) dX12_rowTold_152 rfl ?_
        refine go_dup dX12_rowTold_153 rfl ?_
        refine go_getI' (v := (h3.1 82 2)) dX12_rowTold_154 f12_284 sh82 (fun _ _ => rfl) rfl ?_
        refine go_iconst (v := 1) dX12_rowTold_157 rfl ?_
        refine go_iadd dX12_rowTold_158 ?_
        refine go_putI dX12_rowTold_159 f12_284 sh82 rfl rfl ?_
        refine go_goto 52 dX12_rowTold_162 rfl ?_
        exact vc
      · replace vc := vc.2 q
        refine go_iload_n (x := x3) dX12_rowTold_83 rfl ?_
        refine go_aload_n (x := 82) dX12_rowTold_84 rfl ?_
        refine go_getR (x := 119) dX12_rowTold_85 f12_123 sh82 (fun _ _ => rfl) (rf82_46 hR) ?_
        refine go_iconst (v := 0) dX12_rowTold_88 rfl ?_
        refine go_iald' (v := (h3.1 119 0)) dX12_rowTold_89 sh119 (by unfold vp_in; decide) rfl ?_
        refine go_icmp_ge 113 dX12_rowTold_90 rfl (fun q => ?_) (fun q => ?_)
        · replace vc := vc.1 q
          refine go_iconst (v := 0) dX12_rowTold_113 rfl ?_
          refine go_istore dX12_rowTold_114 (Nat.le_of_ble_eq_true rfl) ?_
          show gg p l e s m args below meth c G (d + 1) MX12_rowTold Q 116 [some (.ref 82), some (.int x1), some (.int x2), some (.int x3), some (.int 0)] [] h3
          refine go_iload (x := 0) dX12_rowTold_116 rfl ?_
          refine go_if_eq 149 dX12_rowTold_118 rfl (fun q => ?_) (fun q => absurd q (by decide))
          refine go_iinc (x := x3) dX12_rowTold_149 rfl ?_
          show gg p l e s m args below meth c G (d + 1) MX12_rowTold Q 152 [some (.ref 82), some (.int x1), some (.int x2), some (.int (x3 + 1)), some (.int 0)] [] h3
          refine go_aload_n (x := 82) dX12_rowTold_152 rfl ?_
          refine go_dup dX12_rowTold_153 rfl ?_
          refine go_getI' (v := (h3.1 82 2)) dX12_rowTold_154 f12_284 sh82 (fun _ _ => rfl) rfl ?_
          refine go_iconst (v := 1) dX12_rowTold_157 rfl ?_
          refine go_iadd dX12_rowTold_158 ?_
          refine go_putI dX12_rowTold_159 f12_284 sh82 rfl rfl ?_
          refine go_goto 52 dX12_rowTold_162 rfl ?_
          exact vc
        · replace vc := vc.2 q
          refine go_aload_n (x := 82) dX12_rowTold_93 rfl ?_
          refine go_getR (x := 83) dX12_rowTold_94 f12_7 sh82 (fun _ _ => rfl) (rf82_0 hR) ?_
          refine go_aload_n (x := 82) dX12_rowTold_97 rfl ?_
          refine go_getI' (v := (h3.1 82 2)) dX12_rowTold_98 f12_284 sh82 (fun _ _ => rfl) rfl ?_
          refine go_iald' (v := (h3.1 83 ((h3.1 82 2) : Int32).toNatClampNeg)) dX12_rowTold_101 sh83 vc.1 rfl ?_
          have vc := vc.2
          refine gsI1 MX12_kindOf dX12_rowTold_102 lX12_360 kX12_kindOf sX12_kindOf (Nat.le_of_ble_eq_true rfl) vc ?_
          intro v6 h6 vc
          obtain ⟨hR6, vc⟩ := vc
          replace hR := hR6.trans hR
          refine go_iconst (v := (-1)) dX12_rowTold_105 rfl ?_
          refine go_icmp_eq 113 dX12_rowTold_106 rfl (fun q => ?_) (fun q => ?_)
          · replace vc := vc.1 q
            refine go_iconst (v := 0) dX12_rowTold_113 rfl ?_
            refine go_istore dX12_rowTold_114 (Nat.le_of_ble_eq_true rfl) ?_
            show gg p l e s m args below meth c G (d + 1) MX12_rowTold Q 116 [some (.ref 82), some (.int x1), some (.int x2), some (.int x3), some (.int 0)] [] h6
            refine go_iload (x := 0) dX12_rowTold_116 rfl ?_
            refine go_if_eq 149 dX12_rowTold_118 rfl (fun q => ?_) (fun q => absurd q (by decide))
            refine go_iinc (x := x3) dX12_rowTold_149 rfl ?_
            show gg p l e s m args below meth c G (d + 1) MX12_rowTold Q 152 [some (.ref 82), some (.int x1), some (.int x2), some (.int (x3 + 1)), some (.int 0)] [] h6
            refine go_aload_n (x := 82) dX12_rowTold_152 rfl ?_
            refine go_dup dX12_rowTold_153 rfl ?_
            refine go_getI' (v := (h6.1 82 2)) dX12_rowTold_154 f12_284 sh82 (fun _ _ => rfl) rfl ?_
            refine go_iconst (v := 1) dX12_rowTold_157 rfl ?_
            refine go_iadd dX12_rowTold_158 ?_
            refine go_putI dX12_rowTold_159 f12_284 sh82 rfl rfl ?_
            refine go_goto 52 dX12_rowTold_162 rfl ?_
            exact vc
          · replace vc := vc.2 q
            refine go_iconst (v := 1) dX12_rowTold_109 rfl ?_
            refine go_goto 114 dX12_rowTold_110 rfl ?_
            refine go_istore dX12_rowTold_114 (Nat.le_of_ble_eq_true rfl) ?_
            show gg p l e s m args below meth c G (d + 1) MX12_rowTold Q 116 [some (.ref 82), some (.int x1), some (.int x2), some (.int x3), some (.int 1)] [] h6
            refine go_iload (x := 1) dX12_rowTold_116 rfl ?_
            refine go_if_eq 149 dX12_rowTold_118 rfl (fun q => absurd q (by decide)) (fun q => ?_)
            refine go_aload_n (x := 82) dX12_rowTold_121 rfl ?_
            refine go_getR (x := 121) dX12_rowTold_122 f12_130 sh82 (fun _ _ => rfl) (rf82_48 hR) ?_
            refine go_bipush (v := 8) dX12_rowTold_125 rfl ?_
            refine go_aload_n (x := 82) dX12_rowTold_127 rfl ?_
            refine go_getR (x := 119) dX12_rowTold_128 f12_123 sh82 (fun _ _ => rfl) (rf82_46 hR) ?_
            refine go_iconst (v := 1) dX12_rowTold_131 rfl ?_
            refine go_iald' (v := (h6.1 119 1)) dX12_rowTold_132 sh119 (by unfold vp_in; decide) rfl ?_
            refine go_imul dX12_rowTold_133 ?_
            refine go_iload_n (x := x3) dX12_rowTold_134 rfl ?_
            refine go_iadd dX12_rowTold_135 ?_
            refine go_aload_n (x := 82) dX12_rowTold_136 rfl ?_
            refine go_getR (x := 83) dX12_rowTold_137 f12_7 sh82 (fun _ _ => rfl) (rf82_0 hR) ?_
            refine go_aload_n (x := 82) dX12_rowTold_140 rfl ?_
            refine go_getI' (v := (h6.1 82 2)) dX12_rowTold_141 f12_284 sh82 (fun _ _ => rfl) rfl ?_
            refine go_iald' (v := (h6.1 83 ((h6.1 82 2) : Int32).toNatClampNeg)) dX12_rowTold_144 sh83 vc.1 rfl ?_
            have vc := vc.2
            refine gsI1 MX12_kindOf dX12_rowTold_145 lX12_360 kX12_kindOf sX12_kindOf (Nat.le_of_ble_eq_true rfl) vc ?_
            intro v7 h7 vc
            obtain ⟨hR7, vc⟩ := vc
            replace hR := hR7.trans hR
            refine go_iast dX12_rowTold_148 sh121 vc.1 ?_
            have vc := vc.2
            show gg p l e s m args below meth c G (d + 1) MX12_rowTold Q 149 [some (.ref 82), some (.int x1), some (.int x2), some (.int x3), some (.int 1)] [] (sI h7 121 (((8 * (h6.1 119 1)) + x3) : Int32).toNatClampNeg v7)
            refine go_iinc (x := x3) dX12_rowTold_149 rfl ?_
            show gg p l e s m args below meth c G (d + 1) MX12_rowTold Q 152 [some (.ref 82), some (.int x1), some (.int x2), some (.int (x3 + 1)), some (.int 1)] [] (sI h7 121 (((8 * (h6.1 119 1)) + x3) : Int32).toNatClampNeg v7)
            refine go_aload_n (x := 82) dX12_rowTold_152 rfl ?_
            refine go_dup dX12_rowTold_153 rfl ?_
            refine go_getI' (v := (h7.1 82 2)) dX12_rowTold_154 f12_284 sh82 (fun _ _ => rfl) rfl ?_
            refine go_iconst (v := 1) dX12_rowTold_157 rfl ?_
            refine go_iadd dX12_rowTold_158 ?_
            refine go_putI dX12_rowTold_159 f12_284 sh82 rfl rfl ?_
            refine go_goto 52 dX12_rowTold_162 rfl ?_
            exact vc
set_option maxRecDepth 20000 in
theorem wX12_boatTold_0 {p : Program} {l : Launch} {e : Env} {s : State} {m : MethodId} {args : Array Value} {below : List Frame} {meth : Method} {c : Code} {G : gG} {d : Nat} {Q : Option Value → gH → Prop} {h : gH} {lk sp : Nat} {cd : Option Nat} {a1 : Int32} (hR : h.2.2 = gRF lk sp cd) (hlk : lk = 30 ∨ lk = 67) (hsp : sp = 30 ∨ sp = 67)  (vc : gC l G d MX12_isFull [.ref 82, .int 2, .int 6, .int a1] h (rI fun v1 h1 => h1.2.2 = (h).2.2 ∧ ((v1 = 0 → gC l G d MX12_newName [.ref 82] h1 (rL fun v2 h2 => h2.2.2 = (h1).2.2 ∧ gC l G d MX12_asks [.ref 82, .ref 88] h2 (rV fun h3 => h3.2.2 = (h2).2.2 ∧ gC l G d MX12_number [.ref 82, .int 0, .int 99] h3 (rI fun v4 h4 => h4.2.2 = (h3).2.2 ∧ gC l G d MX12_asks [.ref 82, .ref 89] h4 (rV fun h5 => h5.2.2 = (h4).2.2 ∧ gC l G d MX12_number [.ref 82, .int 0, .int ((h5.1 119 0) - 1)] h5 (rI fun v6 h6 => h6.2.2 = (h5).2.2 ∧ gC l G d MX12_number [.ref 82, .int 0, .int ((h6.1 119 1) - 1)] h6 (rI fun v7 h7 => h7.2.2 = (h6).2.2 ∧ ((¬ (h7.1 82 5) = 0 → (((h7.1 82 5) = 0 → (vp_in ((h7.1 119 2)) 24 ∧ (vp_in ((2 * (h7.1 119 2))) 24 ∧ (vp_in (((2 * (h7.1 119 2)) + 1)) 24 ∧ Q none (sI (sI (sI (sL h7 120 ((h7.1 119 2) : Int32).toNatClampNeg v2) 122 ((2 * (h7.1 119 2)) : Int32).toNatClampNeg v4) 122 (((2 * (h7.1 119 2)) + 1) : Int32).toNatClampNeg (((h7.1 119 0) * v7) + v6)) 119 2 ((h7.1 119 2) + 1)))))) ∧ (¬ (h7.1 82 5) = 0 → Q none h7))) ∧ ((h7.1 82 5) = 0 → (vp_in (((8 * v7) + v6)) 96 ∧ (((h7.1 121 (((8 * v7) + v6) : Int32).toNatClampNeg) = 0 → (((h7.1 82 5) = 0 → (vp_in ((h7.1 119 2)) 24 ∧ (vp_in ((2 * (h7.1 119 2))) 24 ∧ (vp_in (((2 * (h7.1 119 2)) + 1)) 24 ∧ Q none (sI (sI (sI (sL h7 120 ((h7.1 119 2) : Int32).toNatClampNeg v2) 122 ((2 * (h7.1 119 2)) : Int32).toNatClampNeg v4) 122 (((2 * (h7.1 119 2)) + 1) : Int32).toNatClampNeg (((h7.1 119 0) * v7) + v6)) 119 2 ((h7.1 119 2) + 1)))))) ∧ (¬ (h7.1 82 5) = 0 → Q none h7))) ∧ (¬ (h7.1 121 (((8 * v7) + v6) : Int32).toNatClampNeg) = 0 → gC l G d MX12_fail [.ref 82, .int 2, .int (h7.1 82 10)] h7 (rV fun h8 => h8.2.2 = (h7).2.2 ∧ (((h8.1 82 5) = 0 → (vp_in ((h8.1 119 2)) 24 ∧ (vp_in ((2 * (h8.1 119 2))) 24 ∧ (vp_in (((2 * (h8.1 119 2)) + 1)) 24 ∧ Q none (sI (sI (sI (sL h8 120 ((h8.1 119 2) : Int32).toNatClampNeg v2) 122 ((2 * (h8.1 119 2)) : Int32).toNatClampNeg v4) 122 (((2 * (h8.1 119 2)) + 1) : Int32).toNatClampNeg (((h8.1 119 0) * v7) + v6)) 119 2 ((h8.1 119 2) + 1)))))) ∧ (¬ (h8.1 82 5) = 0 → Q none h8))))))))))))))) ∧ (¬ v1 = 0 → Q none h1)))) : gg p l e s m args below meth c G (d + 1) MX12_boatTold Q 0 [some (.ref 82), some (.int a1), none, none, none, none, none] [] h := by
  refine go_aload_n (x := 82) dX12_boatTold_0 rfl ?_
  refine go_iconst (v := 2) dX12_boatTold_1 rfl ?_
  refine go_bipush (v := 6) dX12_boatTold_2 rfl ?_
  refine go_iload_n (x := a1) dX12_boatTold_4 rfl ?_
  refine gvI3 MX12_isFull dX12_boatTold_5 lX12_356 kX12_isFull vX12_isFull sh82 (by decide) rfl (Nat.le_of_ble_eq_true rfl) vc ?_
  intro v1 h1 vc
  obtain ⟨hR1, vc⟩ := vc
  replace hR := hR1.trans hR
  refine go_if_eq 12 dX12_boatTold_8 rfl (fun q => ?_) (fun q => ?_)
  · replace vc := vc.1 q
    refine go_aload_n (x := 82) dX12_boatTold_12 rfl ?_
    refine gvL0 MX12_newName dX12_boatTold_13 lX12_364 kX12_newName vX12_newName sh82 (by decide) rfl (Nat.le_of_ble_eq_true rfl) vc ?_
    intro v2 h2 vc
    obtain ⟨hR2, vc⟩ := vc
    replace hR := hR2.trans hR
    refine go_lstore_n dX12_boatTold_16 (Nat.le_of_ble_eq_true rfl) ?_
    show gg p l e s m args below meth c G (d + 1) MX12_boatTold Q 17 [some (.ref 82), some (.int a1), some (.long v2), none, none, none, none] [] h2
    refine go_aload_n (x := 82) dX12_boatTold_17 rfl ?_
    refine go_aload_n (x := 82) dX12_boatTold_18 rfl ?_
    refine go_getR (x := 88) dX12_boatTold_19 f12_30 sh82 (fun _ _ => rfl) (rf82_14 hR) ?_
    refine gvV1 MX12_asks dX12_boatTold_22 lX12_344 kX12_asks vX12_asks sh82 (by decide) rfl (Nat.le_of_ble_eq_true rfl) vc ?_
    intro h3 vc
    obtain ⟨hR3, vc⟩ := vc
    replace hR := hR3.trans hR
    refine go_aload_n (x := 82) dX12_boatTold_25 rfl ?_
    refine go_iconst (v := 0) dX12_boatTold_26 rfl ?_
    refine go_bipush (v := 99) dX12_boatTold_27 rfl ?_
    refine gvI2 MX12_number dX12_boatTold_29 lX12_348 kX12_number vX12_number sh82 (by decide) rfl (Nat.le_of_ble_eq_true rfl) vc ?_
    intro v4 h4 vc
    obtain ⟨hR4, vc⟩ := vc
    replace hR := hR4.trans hR
    refine go_istore dX12_boatTold_32 (Nat.le_of_ble_eq_true rfl) ?_
    show gg p l e s m args below meth c G (d + 1) MX12_boatTold Q 34 [some (.ref 82), some (.int a1), some (.long v2), none, some (.int v4), none, none] [] h4
    refine go_aload_n (x := 82) dX12_boatTold_34 rfl ?_
    refine go_aload_n (x := 82) dX12_boatTold_35 rfl ?_
    refine go_getR (x := 89) dX12_boatTold_36 f12_33 sh82 (fun _ _ => rfl) (rf82_15 hR) ?_
    refine gvV1 MX12_asks dX12_boatTold_39 lX12_344 kX12_asks vX12_asks sh82 (by decide) rfl (Nat.le_of_ble_eq_true rfl) vc ?_
    intro h5 vc
    obtain ⟨hR5, vc⟩ := vc
    replace hR := hR5.trans hR
    refine go_aload_n (x := 82) dX12_boatTold_42 rfl ?_
    refine go_iconst (v := 0) dX12_boatTold_43 rfl ?_
    refine go_aload_n (x := 82) dX12_boatTold_44 rfl ?_
    refine go_getR (x := 119) dX12_boatTold_45 f12_123 sh82 (fun _ _ => rfl) (rf82_46 hR) ?_
    refine go_iconst (v := 0) dX12_boatTold_48 rfl ?_
    refine go_iald' (v := (h5.1 119 0)) dX12_boatTold_49 sh119 (by unfold vp_in; decide) rfl ?_
    refine go_iconst (v := 1) dX12_boatTold_50 rfl ?_
    refine go_isub dX12_boatTold_51 ?_
    refine gvI2 MX12_number dX12_boatTold_52 lX12_348 kX12_number vX12_number sh82 (by decide) rfl (Nat.le_of_ble_eq_true rfl) vc ?_
    intro v6 h6 vc
    obtain ⟨hR6, vc⟩ := vc
    replace hR := hR6.trans hR
    refine go_istore dX12_boatTold_55 (Nat.le_of_ble_eq_true rfl) ?_
    show gg p l e s m args below meth c G (d + 1) MX12_boatTold Q 57 [some (.ref 82), some (.int a1), some (.long v2), none, some (.int v4), some (.int v6), none] [] h6
    refine go_aload_n (x := 82) dX12_boatTold_57 rfl ?_
    refine go_iconst (v := 0) dX12_boatTold_58 rfl ?_
    refine go_aload_n (x := 82) dX12_boatTold_59 rfl ?_
    refine go_getR (x := 119) dX12_boatTold_60 f12_123 sh82 (fun _ _ => rfl) (rf82_46 hR) ?_
    refine go_iconst (v := 1) dX12_boatTold_63 rfl ?_
    refine go_iald' (v := (h6.1 119 1)) dX12_boatTold_64 sh119 (by unfold vp_in; decide) rfl ?_
    refine go_iconst (v := 1) dX12_boatTold_65 rfl ?_
    refine go_isub dX12_boatTold_66 ?_
    refine gvI2 MX12_number dX12_boatTold_67 lX12_348 kX12_number vX12_number sh82 (by decide) rfl (Nat.le_of_ble_eq_true rfl) vc ?_
    intro v7 h7 vc
    obtain ⟨hR7, vc⟩ := vc
    replace hR := hR7.trans hR
    refine go_istore dX12_boatTold_70 (Nat.le_of_ble_eq_true rfl) ?_
    show gg p l e s m args below meth c G (d + 1) MX12_boatTold Q 72 [some (.ref 82), some (.int a1), some (.long v2), none, some (.int v4), some (.int v6), some (.int v7)] [] h7
    refine go_aload_n (x := 82) dX12_boatTold_72 rfl ?_
    refine go_getI' (v := (h7.1 82 5)) dX12_boatTold_73 f12_278 sh82 (fun _ _ => rfl) rfl ?_
    refine go_if_ne 104 dX12_boatTold_76 rfl (fun q => ?_) (fun q => ?_)
    · replace vc := vc.1 q
      refine go_aload_n (x := 82) dX12_boatTold_104 rfl ?_
      refine go_getI' (v := (h7.1 82 5)) dX12_boatTold_105 f12_278 sh82 (fun _ _ => rfl) rfl ?_
      refine go_if_eq 112 dX12_boatTold_108 rfl (fun q => ?_) (fun q => ?_)
      · replace vc := vc.1 q
        refine go_aload_n (x := 82) dX12_boatTold_112 rfl ?_
        refine go_getR (x := 120) dX12_boatTold_113 f12_126 sh82 (fun _ _ => rfl) (rf82_47 hR) ?_
        refine go_aload_n (x := 82) dX12_boatTold_116 rfl ?_
        refine go_getR (x := 119) dX12_boatTold_117 f12_123 sh82 (fun _ _ => rfl) (rf82_46 hR) ?_
        refine go_iconst (v := 2) dX12_boatTold_120 rfl ?_
        refine go_iald' (v := (h7.1 119 2)) dX12_boatTold_121 sh119 (by unfold vp_in; decide) rfl ?_
        refine go_lload_n (x := v2) dX12_boatTold_122 rfl ?_
        refine go_last dX12_boatTold_123 sh120 vc.1 ?_
        have vc := vc.2
        show gg p l e s m args below meth c G (d + 1) MX12_boatTold Q 124 [some (.ref 82), some (.int a1), some (.long v2), none, some (.int v4), some (.int v6), some (.int v7)] [] (sL h7 120 ((h7.1 119 2) : Int32).toNatClampNeg v2)
        refine go_aload_n (x := 82) dX12_boatTold_124 rfl ?_
        refine go_getR (x := 122) dX12_boatTold_125 f12_133 sh82 (fun _ _ => rfl) (rf82_49 hR) ?_
        refine go_iconst (v := 2) dX12_boatTold_128 rfl ?_
        refine go_aload_n (x := 82) dX12_boatTold_129 rfl ?_
        refine go_getR (x := 119) dX12_boatTold_130 f12_123 sh82 (fun _ _ => rfl) (rf82_46 hR) ?_
        refine go_iconst (v := 2) dX12_boatTold_133 rfl ?_
        refine go_iald' (v := (h7.1 119 2)) dX12_boatTold_134 sh119 (by unfold vp_in; decide) rfl ?_
        refine go_imul dX12_boatTold_135 ?_
        refine go_iload (x := v4) dX12_boatTold_136 rfl ?_
        refine go_iast dX12_boatTold_138 sh122 vc.1 ?_
        have vc := vc.2
        show gg p l e s m args below meth c G (d + 1) MX12_boatTold Q 139 [some (.ref 82), some (.int a1), some (.long v2), none, some (.int v4), some (.int v6), some (.int v7)] [] (sI (sL h7 120 ((h7.1 119 2) : Int32).toNatClampNeg v2) 122 ((2 * (h7.1 119 2)) : Int32).toNatClampNeg v4)
        refine go_aload_n (x := 82) dX12_boatTold_139 rfl ?_
        refine go_getR (x := 122) dX12_boatTold_140 f12_133 sh82 (fun _ _ => rfl) (rf82_49 hR) ?_
        refine go_iconst (v := 2) dX12_boatTold_143 rfl ?_
        refine go_aload_n (x := 82) dX12_boatTold_144 rfl ?_
        refine go_getR (x := 119) dX12_boatTold_145 f12_123 sh82 (fun _ _ => rfl) (rf82_46 hR) ?_
        refine go_iconst (v := 2) dX12_boatTold_148 rfl ?_
        refine go_iald' (v := (h7.1 119 2)) dX12_boatTold_149 sh119 (by unfold vp_in; decide) rfl ?_
        refine go_imul dX12_boatTold_150 ?_
        refine go_iconst (v := 1) dX12_boatTold_151 rfl ?_
        refine go_iadd dX12_boatTold_152 ?_
        refine go_aload_n (x := 82) dX12_boatTold_153 rfl ?_
        refine go_getR (x := 119) dX12_boatTold_154 f12_123 sh82 (fun _ _ => rfl) (rf82_46 hR) ?_
        refine go_iconst (v := 0) dX12_boatTold_157 rfl ?_
        refine go_iald' (v := (h7.1 119 0)) dX12_boatTold_158 sh119 (by unfold vp_in; decide) rfl ?_
        refine go_iload (x := v7) dX12_boatTold_159 rfl ?_
        refine go_imul dX12_boatTold_161 ?_
        refine go_iload (x := v6) dX12_boatTold_162 rfl ?_
        refine go_iadd dX12_boatTold_164 ?_
        refine go_iast dX12_boatTold_165 sh122 vc.1 ?_
        have vc := vc.2
        show gg p l e s m args below meth c G (d + 1) MX12_boatTold Q 166 [some (.ref 82), some (.int a1), some (.long v2), none, some (.int v4), some (.int v6), some (.int v7)] [] (sI (sI (sL h7 120 ((h7.1 119 2) : Int32).toNatClampNeg v2) 122 ((2 * (h7.1 119 2)) : Int32).toNatClampNeg v4) 122 (((2 * (h7.1 119 2)) + 1) : Int32).toNatClampNeg (((h7.1 119 0) * v7) + v6))
        refine go_aload_n (x := 82) dX12_boatTold_166 rfl ?_
        refine go_getR (x := 119) dX12_boatTold_167 f12_123 sh82 (fun _ _ => rfl) (rf82_46 hR) ?_
        refine go_iconst (v := 2) dX12_boatTold_170 rfl ?_
        refine go_dup2 dX12_boatTold_171 rfl rfl ?_
        refine go_iald' (v := (h7.1 119 2)) dX12_boatTold_172 sh119 (by unfold vp_in; decide) rfl ?_
        refine go_iconst (v := 1) dX12_boatTold_173 rfl ?_
        refine go_iadd dX12_boatTold_174 ?_
        refine go_iast dX12_boatTold_175 sh119 (by unfold vp_in; decide) ?_
        exact go_vret dX12_boatTold_176 rfl vc rfl (Nat.le_refl _) (Nat.le_refl _)
      · replace vc := vc.2 q
        exact go_vret dX12_boatTold_111 rfl vc rfl (Nat.le_refl _) (Nat.le_refl _)
    · replace vc := vc.2 q
      refine go_aload_n (x := 82) dX12_boatTold_79 rfl ?_
      refine go_getR (x := 121) dX12_boatTold_80 f12_130 sh82 (fun _ _ => rfl) (rf82_48 hR) ?_
      refine go_bipush (v := 8) dX12_boatTold_83 rfl ?_
      refine go_iload (x := v7) dX12_boatTold_85 rfl ?_
      refine go_imul dX12_boatTold_87 ?_
      refine go_iload (x := v6) dX12_boatTold_88 rfl ?_
      refine go_iadd dX12_boatTold_90 ?_
      refine go_iald' (v := (h7.1 121 (((8 * v7) + v6) : Int32).toNatClampNeg)) dX12_boatTold_91 sh121 vc.1 rfl ?_
      have vc := vc.2
      refine go_if_eq 104 dX12_boatTold_92 rfl (fun q => ?_) (fun q => ?_)
      · replace vc := vc.1 q
        refine go_aload_n (x := 82) dX12_boatTold_104 rfl ?_
        refine go_getI' (v := (h7.1 82 5)) dX12_boatTold_105 f12_278 sh82 (fun _ _ => rfl) rfl ?_
        refine go_if_eq 112 dX12_boatTold_108 rfl (fun q => ?_) (fun q => ?_)
        · replace vc := vc.1 q
          refine go_aload_n (x := 82) dX12_boatTold_112 rfl ?_
          refine go_getR (x := 120) dX12_boatTold_113 f12_126 sh82 (fun _ _ => rfl) (rf82_47 hR) ?_
          refine go_aload_n (x := 82) dX12_boatTold_116 rfl ?_
          refine go_getR (x := 119) dX12_boatTold_117 f12_123 sh82 (fun _ _ => rfl) (rf82_46 hR) ?_
          refine go_iconst (v := 2) dX12_boatTold_120 rfl ?_
          refine go_iald' (v := (h7.1 119 2)) dX12_boatTold_121 sh119 (by unfold vp_in; decide) rfl ?_
          refine go_lload_n (x := v2) dX12_boatTold_122 rfl ?_
          refine go_last dX12_boatTold_123 sh120 vc.1 ?_
          have vc := vc.2
          show gg p l e s m args below meth c G (d + 1) MX12_boatTold Q 124 [some (.ref 82), some (.int a1), some (.long v2), none, some (.int v4), some (.int v6), some (.int v7)] [] (sL h7 120 ((h7.1 119 2) : Int32).toNatClampNeg v2)
          refine go_aload_n (x := 82) dX12_boatTold_124 rfl ?_
          refine go_getR (x := 122) dX12_boatTold_125 f12_133 sh82 (fun _ _ => rfl) (rf82_49 hR) ?_
          refine go_iconst (v := 2) dX12_boatTold_128 rfl ?_
          refine go_aload_n (x := 82) dX12_boatTold_129 rfl ?_
          refine go_getR (x := 119) dX12_boatTold_130 f12_123 sh82 (fun _ _ => rfl) (rf82_46 hR) ?_
          refine go_iconst (v := 2) dX12_boatTold_133 rfl ?_
          refine go_iald' (v := (h7.1 119 2)) dX12_boatTold_134 sh119 (by unfold vp_in; decide) rfl ?_
          refine go_imul dX12_boatTold_135 ?_
          refine go_iload (x := v4) dX12_boatTold_136 rfl ?_
          refine go_iast dX12_boatTold_138 sh122 vc.1 ?_
          have vc := vc.2
          show gg p l e s m args below meth c G (d + 1) MX12_boatTold Q 139 [some (.ref 82), some (.int a1), some (.long v2), none, some (.int v4), some (.int v6), some (.int v7)] [] (sI (sL h7 120 ((h7.1 119 2) : Int32).toNatClampNeg v2) 122 ((2 * (h7.1 119 2)) : Int32).toNatClampNeg v4)
          refine go_aload_n (x := 82) dX12_boatTold_139 rfl ?_
          refine go_getR (x := 122) dX12_boatTold_140 f12_133 sh82 (fun _ _ => rfl) (rf82_49 hR) ?_
          refine go_iconst (v := 2) dX12_boatTold_143 rfl ?_
          refine go_aload_n (x := 82) dX12_boatTold_144 rfl ?_
          refine go_getR (x := 119) dX12_boatTold_145 f12_123 sh82 (fun _ _ => rfl) (rf82_46 hR) ?_
          refine go_iconst (v := 2) dX12_boatTold_148 rfl ?_
          refine go_iald' (v := (h7.1 119 2)) dX12_boatTold_149 sh119 (by unfold vp_in; decide) rfl ?_
          refine go_imul dX12_boatTold_150 ?_
          refine go_iconst (v := 1) dX12_boatTold_151 rfl ?_
          refine go_iadd dX12_boatTold_152 ?_
          refine go_aload_n (x := 82) dX12_boatTold_153 rfl ?_
          refine go_getR (x := 119) dX12_boatTold_154 f12_123 sh82 (fun _ _ => rfl) (rf82_46 hR) ?_
          refine go_iconst (v := 0) dX12_boatTold_157 rfl ?_
          refine go_iald' (v := (h7.1 119 0)) dX12_boatTold_158 sh119 (by unfold vp_in; decide) rfl ?_
          refine go_iload (x := v7) dX12_boatTold_159 rfl ?_
          refine go_imul dX12_boatTold_161 ?_
          refine go_iload (x := v6) dX12_boatTold_162 rfl ?_
          refine go_iadd dX12_boatTold_164 ?_
          refine go_iast dX12_boatTold_165 sh122 vc.1 ?_
          have vc := vc.2
          show gg p l e s m args below meth c G (d + 1) MX12_boatTold Q 166 [some (.ref 82), some (.int a1), some (.long v2), none, some (.int v4), some (.int v6), some (.int v7)] [] (sI (sI (sL h7 120 ((h7.1 119 2) : Int32).toNatClampNeg v2) 122 ((2 * (h7.1 119 2)) : Int32).toNatClampNeg v4) 122 (((2 * (h7.1 119 2)) + 1) : Int32).toNatClampNeg (((h7.1 119 0) * v7) + v6))
          refine go_aload_n (x := 82) dX12_boatTold_166 rfl ?_
          refine go_getR (x := 119) dX12_boatTold_167 f12_123 sh82 (fun _ _ => rfl) (rf82_46 hR) ?_
          refine go_iconst (v := 2) dX12_boatTold_170 rfl ?_
          refine go_dup2 dX12_boatTold_171 rfl rfl ?_
          refine go_iald' (v := (h7.1 119 2)) dX12_boatTold_172 sh119 (by unfold vp_in; decide) rfl ?_
          refine go_iconst (v := 1) dX12_boatTold_173 rfl ?_
          refine go_iadd dX12_boatTold_174 ?_
          refine go_iast dX12_boatTold_175 sh119 (by unfold vp_in; decide) ?_
          exact go_vret dX12_boatTold_176 rfl vc rfl (Nat.le_refl _) (Nat.le_refl _)
        · replace vc := vc.2 q
          exact go_vret dX12_boatTold_111 rfl vc rfl (Nat.le_refl _) (Nat.le_refl _)
      · replace vc := vc.2 q
        refine go_aload_n (x := 82) dX12_boatTold_95 rfl ?_
        refine go_iconst (v := 2) dX12_boatTold_96 rfl ?_
        refine go_aload_n (x := 82) dX12_boatTold_97 rfl ?_
        refine go_getI' (v := (h7.1 82 10)) dX12_boatTold_98 f12_318 sh82 (fun _ _ => rfl) rfl ?_
        refine gvV2 MX12_fail dX12_boatTold_101 lX12_308 kX12_fail vX12_fail sh82 (by decide) rfl (Nat.le_of_ble_eq_true rfl) vc ?_
        intro h8 vc
        obtain ⟨hR8, vc⟩ := vc
        replace hR := hR8.trans hR
        refine go_aload_n (x := 82) dX12_boatTold_104 rfl ?_
        refine go_getI' (v := (h8.1 82 5)) dX12_boatTold_105 f12_278 sh82 (fun _ _ => rfl) rfl ?_
        refine go_if_eq 112 dX12_boatTold_108 rfl (fun q => ?_) (fun q => ?_)
        · replace vc := vc.1 q
          refine go_aload_n (x := 82) dX12_boatTold_112 rfl ?_
          refine go_getR (x := 120) dX12_boatTold_113 f12_126 sh82 (fun _ _ => rfl) (rf82_47 hR) ?_
          refine go_aload_n (x := 82) dX12_boatTold_116 rfl ?_
          refine go_getR (x := 119) dX12_boatTold_117 f12_123 sh82 (fun _ _ => rfl) (rf82_46 hR) ?_
          refine go_iconst (v := 2) dX12_boatTold_120 rfl ?_
          refine go_iald' (v := (h8.1 119 2)) dX12_boatTold_121 sh119 (by unfold vp_in; decide) rfl ?_
          refine go_lload_n (x := v2) dX12_boatTold_122 rfl ?_
          refine go_last dX12_boatTold_123 sh120 vc.1 ?_
          have vc := vc.2
          show gg p l e s m args below meth c G (d + 1) MX12_boatTold Q 124 [some (.ref 82), some (.int a1), some (.long v2), none, some (.int v4), some (.int v6), some (.int v7)] [] (sL h8 120 ((h8.1 119 2) : Int32).toNatClampNeg v2)
          refine go_aload_n (x := 82) dX12_boatTold_124 rfl ?_
          refine go_getR (x := 122) dX12_boatTold_125 f12_133 sh82 (fun _ _ => rfl) (rf82_49 hR) ?_
          refine go_iconst (v := 2) dX12_boatTold_128 rfl ?_
          refine go_aload_n (x := 82) dX12_boatTold_129 rfl ?_
          refine go_getR (x := 119) dX12_boatTold_130 f12_123 sh82 (fun _ _ => rfl) (rf82_46 hR) ?_
          refine go_iconst (v := 2) dX12_boatTold_133 rfl ?_
          refine go_iald' (v := (h8.1 119 2)) dX12_boatTold_134 sh119 (by unfold vp_in; decide) rfl ?_
          refine go_imul dX12_boatTold_135 ?_
          refine go_iload (x := v4) dX12_boatTold_136 rfl ?_
          refine go_iast dX12_boatTold_138 sh122 vc.1 ?_
          have vc := vc.2
          show gg p l e s m args below meth c G (d + 1) MX12_boatTold Q 139 [some (.ref 82), some (.int a1), some (.long v2), none, some (.int v4), some (.int v6), some (.int v7)] [] (sI (sL h8 120 ((h8.1 119 2) : Int32).toNatClampNeg v2) 122 ((2 * (h8.1 119 2)) : Int32).toNatClampNeg v4)
          refine go_aload_n (x := 82) dX12_boatTold_139 rfl ?_
          refine go_getR (x := 122) dX12_boatTold_140 f12_133 sh82 (fun _ _ => rfl) (rf82_49 hR) ?_
          refine go_iconst (v := 2) dX12_boatTold_143 rfl ?_
          refine go_aload_n (x := 82) dX12_boatTold_144 rfl ?_
          refine go_getR (x := 119) dX12_boatTold_145 f12_123 sh82 (fun _ _ => rfl) (rf82_46 hR) ?_
          refine go_iconst (v := 2) dX12_boatTold_148 rfl ?_
          refine go_iald' (v := (h8.1 119 2)) dX12_boatTold_149 sh119 (by unfold vp_in; decide) rfl ?_
          refine go_imul dX12_boatTold_150 ?_
          refine go_iconst (v := 1) dX12_boatTold_151 rfl ?_
          refine go_iadd dX12_boatTold_152 ?_
          refine go_aload_n (x := 82) dX12_boatTold_153 rfl ?_
          refine go_getR (x := 119) dX12_boatTold_154 f12_123 sh82 (fun _ _ => rfl) (rf82_46 hR) ?_
          refine go_iconst (v := 0) dX12_boatTold_157 rfl ?_
          refine go_iald' (v := (h8.1 119 0)) dX12_boatTold_158 sh119 (by unfold vp_in; decide) rfl ?_
          refine go_iload (x := v7) dX12_boatTold_159 rfl ?_
          refine go_imul dX12_boatTold_161 ?_
          refine go_iload (x := v6) dX12_boatTold_162 rfl ?_
          refine go_iadd dX12_boatTold_164 ?_
          refine go_iast dX12_boatTold_165 sh122 vc.1 ?_
          have vc := vc.2
          show gg p l e s m args below meth c G (d + 1) MX12_boatTold Q 166 [some (.ref 82), some (.int a1), some (.long v2), none, some (.int v4), some (.int v6), some (.int v7)] [] (sI (sI (sL h8 120 ((h8.1 119 2) : Int32).toNatClampNeg v2) 122 ((2 * (h8.1 119 2)) : Int32).toNatClampNeg v4) 122 (((2 * (h8.1 119 2)) + 1) : Int32).toNatClampNeg (((h8.1 119 0) * v7) + v6))
          refine go_aload_n (x := 82) dX12_boatTold_166 rfl ?_
          refine go_getR (x := 119) dX12_boatTold_167 f12_123 sh82 (fun _ _ => rfl) (rf82_46 hR) ?_
          refine go_iconst (v := 2) dX12_boatTold_170 rfl ?_
          refine go_dup2 dX12_boatTold_171 rfl rfl ?_
          refine go_iald' (v := (h8.1 119 2)) dX12_boatTold_172 sh119 (by unfold vp_in; decide) rfl ?_
          refine go_iconst (v := 1) dX12_boatTold_173 rfl ?_
          refine go_iadd dX12_boatTold_174 ?_
          refine go_iast dX12_boatTold_175 sh119 (by unfold vp_in; decide) ?_
          exact go_vret dX12_boatTold_176 rfl vc rfl (Nat.le_refl _) (Nat.le_refl _)
        · replace vc := vc.2 q
          exact go_vret dX12_boatTold_111 rfl vc rfl (Nat.le_refl _) (Nat.le_refl _)
  · replace vc := vc.2 q
    exact go_vret dX12_boatTold_11 rfl vc rfl (Nat.le_refl _) (Nat.le_refl _)
set_option maxRecDepth 20000 in
theorem wX12_handTold_0 {p : Program} {l : Launch} {e : Env} {s : State} {m : MethodId} {args : Array Value} {below : List Frame} {meth : Method} {c : Code} {G : gG} {d : Nat} {Q : Option Value → gH → Prop} {h : gH} {lk sp : Nat} {cd : Option Nat} {a1 : Int32} (hR : h.2.2 = gRF lk sp cd) (hlk : lk = 30 ∨ lk = 67) (hsp : sp = 30 ∨ sp = 67)  (vc : gC l G d MX12_isFull [.ref 82, .int 3, .int 6, .int a1] h (rI fun v1 h1 => h1.2.2 = (h).2.2 ∧ ((v1 = 0 → gC l G d MX12_newName [.ref 82] h1 (rL fun v2 h2 => h2.2.2 = (h1).2.2 ∧ gC l G d MX12_asks [.ref 82, .ref 91] h2 (rV fun h3 => h3.2.2 = (h2).2.2 ∧ gC l G d MX12_number [.ref 82, .int 0, .int 9] h3 (rI fun v4 h4 => h4.2.2 = (h3).2.2 ∧ (((h4.1 82 5) = 0 → (vp_in ((6 + (h4.1 119 3))) 24 ∧ (vp_in ((h4.1 119 3)) 12 ∧ Q none (sI (sI (sL h4 120 ((6 + (h4.1 119 3)) : Int32).toNatClampNeg v2) 123 ((h4.1 119 3) : Int32).toNatClampNeg v4) 119 3 ((h4.1 119 3) + 1))))) ∧ (¬ (h4.1 82 5) = 0 → Q none h4)))))) ∧ (¬ v1 = 0 → Q none h1)))) : gg p l e s m args below meth c G (d + 1) MX12_handTold Q 0 [some (.ref 82), some (.int a1), none, none, none] [] h := by
  refine go_aload_n (x := 82) dX12_handTold_0 rfl ?_
  refine go_iconst (v := 3) dX12_handTold_1 rfl ?_
  refine go_bipush (v := 6) dX12_handTold_2 rfl ?_
  refine go_iload_n (x := a1) dX12_handTold_4 rfl ?_
  refine gvI3 MX12_isFull dX12_handTold_5 lX12_356 kX12_isFull vX12_isFull sh82 (by decide) rfl (Nat.le_of_ble_eq_true rfl) vc ?_
  intro v1 h1 vc
  obtain ⟨hR1, vc⟩ := vc
  replace hR := hR1.trans hR
  refine go_if_eq 12 dX12_handTold_8 rfl (fun q => ?_) (fun q => ?_)
  · replace vc := vc.1 q
    refine go_aload_n (x := 82) dX12_handTold_12 rfl ?_
    refine gvL0 MX12_newName dX12_handTold_13 lX12_364 kX12_newName vX12_newName sh82 (by decide) rfl (Nat.le_of_ble_eq_true rfl) vc ?_
    intro v2 h2 vc
    obtain ⟨hR2, vc⟩ := vc
    replace hR := hR2.trans hR
    refine go_lstore_n dX12_handTold_16 (Nat.le_of_ble_eq_true rfl) ?_
    show gg p l e s m args below meth c G (d + 1) MX12_handTold Q 17 [some (.ref 82), some (.int a1), some (.long v2), none, none] [] h2
    refine go_aload_n (x := 82) dX12_handTold_17 rfl ?_
    refine go_aload_n (x := 82) dX12_handTold_18 rfl ?_
    refine go_getR (x := 91) dX12_handTold_19 f12_39 sh82 (fun _ _ => rfl) (rf82_17 hR) ?_
    refine gvV1 MX12_asks dX12_handTold_22 lX12_344 kX12_asks vX12_asks sh82 (by decide) rfl (Nat.le_of_ble_eq_true rfl) vc ?_
    intro h3 vc
    obtain ⟨hR3, vc⟩ := vc
    replace hR := hR3.trans hR
    refine go_aload_n (x := 82) dX12_handTold_25 rfl ?_
    refine go_iconst (v := 0) dX12_handTold_26 rfl ?_
    refine go_bipush (v := 9) dX12_handTold_27 rfl ?_
    refine gvI2 MX12_number dX12_handTold_29 lX12_348 kX12_number vX12_number sh82 (by decide) rfl (Nat.le_of_ble_eq_true rfl) vc ?_
    intro v4 h4 vc
    obtain ⟨hR4, vc⟩ := vc
    replace hR := hR4.trans hR
    refine go_istore dX12_handTold_32 (Nat.le_of_ble_eq_true rfl) ?_
    show gg p l e s m args below meth c G (d + 1) MX12_handTold Q 34 [some (.ref 82), some (.int a1), some (.long v2), none, some (.int v4)] [] h4
    refine go_aload_n (x := 82) dX12_handTold_34 rfl ?_
    refine go_getI' (v := (h4.1 82 5)) dX12_handTold_35 f12_278 sh82 (fun _ _ => rfl) rfl ?_
    refine go_if_eq 42 dX12_handTold_38 rfl (fun q => ?_) (fun q => ?_)
    · replace vc := vc.1 q
      refine go_aload_n (x := 82) dX12_handTold_42 rfl ?_
      refine go_getR (x := 120) dX12_handTold_43 f12_126 sh82 (fun _ _ => rfl) (rf82_47 hR) ?_
      refine go_bipush (v := 6) dX12_handTold_46 rfl ?_
      refine go_aload_n (x := 82) dX12_handTold_48 rfl ?_
      refine go_getR (x := 119) dX12_handTold_49 f12_123 sh82 (fun _ _ => rfl) (rf82_46 hR) ?_
      refine go_iconst (v := 3) dX12_handTold_52 rfl ?_
      refine go_iald' (v := (h4.1 119 3)) dX12_handTold_53 sh119 (by unfold vp_in; decide) rfl ?_
      refine go_iadd dX12_handTold_54 ?_
      refine go_lload_n (x := v2) dX12_handTold_55 rfl ?_
      refine go_last dX12_handTold_56 sh120 vc.1 ?_
      have vc := vc.2
      show gg p l e s m args below meth c G (d + 1) MX12_handTold Q 57 [some (.ref 82), some (.int a1), some (.long v2), none, some (.int v4)] [] (sL h4 120 ((6 + (h4.1 119 3)) : Int32).toNatClampNeg v2)
      refine go_aload_n (x := 82) dX12_handTold_57 rfl ?_
      refine go_getR (x := 123) dX12_handTold_58 f12_136 sh82 (fun _ _ => rfl) (rf82_50 hR) ?_
      refine go_aload_n (x := 82) dX12_handTold_61 rfl ?_
      refine go_getR (x := 119) dX12_handTold_62 f12_123 sh82 (fun _ _ => rfl) (rf82_46 hR) ?_
      refine go_iconst (v := 3) dX12_handTold_65 rfl ?_
      refine go_iald' (v := (h4.1 119 3)) dX12_handTold_66 sh119 (by unfold vp_in; decide) rfl ?_
      refine go_iload (x := v4) dX12_handTold_67 rfl ?_
      refine go_iast dX12_handTold_69 sh123 vc.1 ?_
      have vc := vc.2
      show gg p l e s m args below meth c G (d + 1) MX12_handTold Q 70 [some (.ref 82), some (.int a1), some (.long v2), none, some (.int v4)] [] (sI (sL h4 120 ((6 + (h4.1 119 3)) : Int32).toNatClampNeg v2) 123 ((h4.1 119 3) : Int32).toNatClampNeg v4)
      refine go_aload_n (x := 82) dX12_handTold_70 rfl ?_
      refine go_getR (x := 119) dX12_handTold_71 f12_123 sh82 (fun _ _ => rfl) (rf82_46 hR) ?_
      refine go_iconst (v := 3) dX12_handTold_74 rfl ?_
      refine go_dup2 dX12_handTold_75 rfl rfl ?_
      refine go_iald' (v := (h4.1 119 3)) dX12_handTold_76 sh119 (by unfold vp_in; decide) rfl ?_
      refine go_iconst (v := 1) dX12_handTold_77 rfl ?_
      refine go_iadd dX12_handTold_78 ?_
      refine go_iast dX12_handTold_79 sh119 (by unfold vp_in; decide) ?_
      exact go_vret dX12_handTold_80 rfl vc rfl (Nat.le_refl _) (Nat.le_refl _)
    · replace vc := vc.2 q
      exact go_vret dX12_handTold_41 rfl vc rfl (Nat.le_refl _) (Nat.le_refl _)
  · replace vc := vc.2 q
    exact go_vret dX12_handTold_11 rfl vc rfl (Nat.le_refl _) (Nat.le_refl _)
set_option maxRecDepth 20000 in
theorem wX12_likesTold_0 {p : Program} {l : Launch} {e : Env} {s : State} {m : MethodId} {args : Array Value} {below : List Frame} {meth : Method} {c : Code} {G : gG} {d : Nat} {Q : Option Value → gH → Prop} {h : gH} {lk sp : Nat} {cd : Option Nat}  (hR : h.2.2 = gRF lk sp cd) (hlk : lk = 30 ∨ lk = 67) (hsp : sp = 30 ∨ sp = 67)  (vc : gC l G d MX12_oneOf [.ref 82, .int 0] h (rI fun v1 h1 => h1.2.2 = (h).2.2 ∧ gC l G d MX12_oneOf [.ref 82, .int 1] h1 (rI fun v2 h2 => h2.2.2 = (h1).2.2 ∧ gC l G d MX12_number [.ref 82, .int 0, .int 99] h2 (rI fun v3 h3 => h3.2.2 = (h2).2.2 ∧ ((¬ (h3.1 82 5) = 0 → Q none h3) ∧ ((h3.1 82 5) = 0 → (vp_in (((6 * v1) + v2)) 72 ∧ Q none (sI h3 124 (((6 * v1) + v2) : Int32).toNatClampNeg v3)))))))) : gg p l e s m args below meth c G (d + 1) MX12_likesTold Q 0 [some (.ref 82), none, none, none] [] h := by
  refine go_aload_n (x := 82) dX12_likesTold_0 rfl ?_
  refine go_iconst (v := 0) dX12_likesTold_1 rfl ?_
  refine gvI1 MX12_oneOf dX12_likesTold_2 lX12_367 kX12_oneOf vX12_oneOf sh82 (by decide) rfl (Nat.le_of_ble_eq_true rfl) vc ?_
  intro v1 h1 vc
  obtain ⟨hR1, vc⟩ := vc
  replace hR := hR1.trans hR
  refine go_istore_n dX12_likesTold_5 (Nat.le_of_ble_eq_true rfl) ?_
  show gg p l e s m args below meth c G (d + 1) MX12_likesTold Q 6 [some (.ref 82), some (.int v1), none, none] [] h1
  refine go_aload_n (x := 82) dX12_likesTold_6 rfl ?_
  refine go_iconst (v := 1) dX12_likesTold_7 rfl ?_
  refine gvI1 MX12_oneOf dX12_likesTold_8 lX12_367 kX12_oneOf vX12_oneOf sh82 (by decide) rfl (Nat.le_of_ble_eq_true rfl) vc ?_
  intro v2 h2 vc
  obtain ⟨hR2, vc⟩ := vc
  replace hR := hR2.trans hR
  refine go_istore_n dX12_likesTold_11 (Nat.le_of_ble_eq_true rfl) ?_
  show gg p l e s m args below meth c G (d + 1) MX12_likesTold Q 12 [some (.ref 82), some (.int v1), some (.int v2), none] [] h2
  refine go_aload_n (x := 82) dX12_likesTold_12 rfl ?_
  refine go_iconst (v := 0) dX12_likesTold_13 rfl ?_
  refine go_bipush (v := 99) dX12_likesTold_14 rfl ?_
  refine gvI2 MX12_number dX12_likesTold_16 lX12_348 kX12_number vX12_number sh82 (by decide) rfl (Nat.le_of_ble_eq_true rfl) vc ?_
  intro v3 h3 vc
  obtain ⟨hR3, vc⟩ := vc
  replace hR := hR3.trans hR
  refine go_istore_n dX12_likesTold_19 (Nat.le_of_ble_eq_true rfl) ?_
  show gg p l e s m args below meth c G (d + 1) MX12_likesTold Q 20 [some (.ref 82), some (.int v1), some (.int v2), some (.int v3)] [] h3
  refine go_aload_n (x := 82) dX12_likesTold_20 rfl ?_
  refine go_getI' (v := (h3.1 82 5)) dX12_likesTold_21 f12_278 sh82 (fun _ _ => rfl) rfl ?_
  refine go_if_ne 39 dX12_likesTold_24 rfl (fun q => ?_) (fun q => ?_)
  · replace vc := vc.1 q
    exact go_vret dX12_likesTold_39 rfl vc rfl (Nat.le_refl _) (Nat.le_refl _)
  · replace vc := vc.2 q
    refine go_aload_n (x := 82) dX12_likesTold_27 rfl ?_
    refine go_getR (x := 124) dX12_likesTold_28 f12_139 sh82 (fun _ _ => rfl) (rf82_51 hR) ?_
    refine go_bipush (v := 6) dX12_likesTold_31 rfl ?_
    refine go_iload_n (x := v1) dX12_likesTold_33 rfl ?_
    refine go_imul dX12_likesTold_34 ?_
    refine go_iload_n (x := v2) dX12_likesTold_35 rfl ?_
    refine go_iadd dX12_likesTold_36 ?_
    refine go_iload_n (x := v3) dX12_likesTold_37 rfl ?_
    refine go_iast dX12_likesTold_38 sh124 vc.1 ?_
    have vc := vc.2
    show gg p l e s m args below meth c G (d + 1) MX12_likesTold Q 39 [some (.ref 82), some (.int v1), some (.int v2), some (.int v3)] [] (sI h3 124 (((6 * v1) + v2) : Int32).toNatClampNeg v3)
    exact go_vret dX12_likesTold_39 rfl vc rfl (Nat.le_refl _) (Nat.le_refl _)
set_option maxRecDepth 20000 in
theorem wX12_skyTold_0 {p : Program} {l : Launch} {e : Env} {s : State} {m : MethodId} {args : Array Value} {below : List Frame} {meth : Method} {c : Code} {G : gG} {d : Nat} {Q : Option Value → gH → Prop} {h : gH} {lk sp : Nat} {cd : Option Nat} {a1 : Int32} {a2 : Int32} (hR : h.2.2 = gRF lk sp cd) (hlk : lk = 30 ∨ lk = 67) (hsp : sp = 30 ∨ sp = 67)  (vc : gC l G d MX12_isFull [.ref 82, .int 4, .int 10, .int a2] h (rI fun v1 h1 => h1.2.2 = (h).2.2 ∧ ((v1 = 0 → gC l G d MX12_asks [.ref 82, .ref 89] h1 (rV fun h2 => h2.2.2 = (h1).2.2 ∧ gC l G d MX12_number [.ref 82, .int 0, .int 99] h2 (rI fun v3 h3 => h3.2.2 = (h2).2.2 ∧ gg p l e s m args below meth c G (d + 1) MX12_skyTold Q 31 [some (.ref 82), some (.int a1), some (.int a2), some (.int v3), some (.int 0)] [] h3))) ∧ (¬ v1 = 0 → Q none h1)))) : gg p l e s m args below meth c G (d + 1) MX12_skyTold Q 0 [some (.ref 82), some (.int a1), some (.int a2), none, none] [] h := by
  refine go_aload_n (x := 82) dX12_skyTold_0 rfl ?_
  refine go_iconst (v := 4) dX12_skyTold_1 rfl ?_
  refine go_bipush (v := 10) dX12_skyTold_2 rfl ?_
  refine go_iload_n (x := a2) dX12_skyTold_4 rfl ?_
  refine gvI3 MX12_isFull dX12_skyTold_5 lX12_356 kX12_isFull vX12_isFull sh82 (by decide) rfl (Nat.le_of_ble_eq_true rfl) vc ?_
  intro v1 h1 vc
  obtain ⟨hR1, vc⟩ := vc
  replace hR := hR1.trans hR
  refine go_if_eq 12 dX12_skyTold_8 rfl (fun q => ?_) (fun q => ?_)
  · replace vc := vc.1 q
    refine go_aload_n (x := 82) dX12_skyTold_12 rfl ?_
    refine go_aload_n (x := 82) dX12_skyTold_13 rfl ?_
    refine go_getR (x := 89) dX12_skyTold_14 f12_33 sh82 (fun _ _ => rfl) (rf82_15 hR) ?_
    refine gvV1 MX12_asks dX12_skyTold_17 lX12_344 kX12_asks vX12_asks sh82 (by decide) rfl (Nat.le_of_ble_eq_true rfl) vc ?_
    intro h2 vc
    obtain ⟨hR2, vc⟩ := vc
    replace hR := hR2.trans hR
    refine go_aload_n (x := 82) dX12_skyTold_20 rfl ?_
    refine go_iconst (v := 0) dX12_skyTold_21 rfl ?_
    refine go_bipush (v := 99) dX12_skyTold_22 rfl ?_
    refine gvI2 MX12_number dX12_skyTold_24 lX12_348 kX12_number vX12_number sh82 (by decide) rfl (Nat.le_of_ble_eq_true rfl) vc ?_
    intro v3 h3 vc
    obtain ⟨hR3, vc⟩ := vc
    replace hR := hR3.trans hR
    refine go_istore_n dX12_skyTold_27 (Nat.le_of_ble_eq_true rfl) ?_
    show gg p l e s m args below meth c G (d + 1) MX12_skyTold Q 28 [some (.ref 82), some (.int a1), some (.int a2), some (.int v3), none] [] h3
    refine go_iconst (v := 0) dX12_skyTold_28 rfl ?_
    refine go_istore dX12_skyTold_29 (Nat.le_of_ble_eq_true rfl) ?_
    show gg p l e s m args below meth c G (d + 1) MX12_skyTold Q 31 [some (.ref 82), some (.int a1), some (.int a2), some (.int v3), some (.int 0)] [] h3
    exact vc
  · replace vc := vc.2 q
    exact go_vret dX12_skyTold_11 rfl vc rfl (Nat.le_refl _) (Nat.le_refl _)
set_option maxRecDepth 20000 in
theorem wX12_skyTold_31 {p : Program} {l : Launch} {e : Env} {s : State} {m : MethodId} {args : Array Value} {below : List Frame} {meth : Method} {c : Code} {G : gG} {d : Nat} {Q : Option Value → gH → Prop} {h : gH} {lk sp : Nat} {cd : Option Nat} {x1 : Int32} {x2 : Int32} {x3 : Int32} {x4 : Int32} (hR : h.2.2 = gRF lk sp cd) (hlk : lk = 30 ∨ lk = 67) (hsp : sp = 30 ∨ sp = 67)  (vc : (((h.1 119 4) ≤ x4 → (((h.1 82 5) = 0 → (vp_in ((2 * (h.1 119 4))) 40 ∧ (vp_in (((2 * (h.1 119 4)) + 1)) 40 ∧ Q none (sI (sI (sI h 125 ((2 * (h.1 119 4)) : Int32).toNatClampNeg x3) 125 (((2 * (h.1 119 4)) + 1) : Int32).toNatClampNeg x1) 119 4 ((h.1 119 4) + 1))))) ∧ (¬ (h.1 82 5) = 0 → Q none h))) ∧ (¬ (h.1 119 4) ≤ x4 → ((¬ (h.1 82 5) = 0 → gg p l e s m args below meth c G (d + 1) MX12_skyTold Q 31 [some (.ref 82), some (.int x1), some (.int x2), some (.int x3), some (.int (x4 + 1))] [] h) ∧ ((h.1 82 5) = 0 → (vp_in ((2 * x4)) 40 ∧ ((¬ (h.1 125 ((2 * x4) : Int32).toNatClampNeg) = x3 → gg p l e s m args below meth c G (d + 1) MX12_skyTold Q 31 [some (.ref 82), some (.int x1), some (.int x2), some (.int x3), some (.int (x4 + 1))] [] h) ∧ ((h.1 125 ((2 * x4) : Int32).toNatClampNeg) = x3 → gC l G d MX12_fail [.ref 82, .int 2, .int (h.1 82 10)] h (rV fun h1 => h1.2.2 = (h).2.2 ∧ gg p l e s m args below meth c G (d + 1) MX12_skyTold Q 31 [some (.ref 82), some (.int x1), some (.int x2), some (.int x3), some (.int (x4 + 1))] [] h1))))))))) : gg p l e s m args below meth c G (d + 1) MX12_skyTold Q 31 [some (.ref 82), some (.int x1), some (.int x2), some (.int x3), some (.int x4)] [] h := by
  refine go_iload (x := x4) dX12_skyTold_31 rfl ?_
  refine go_aload_n (x := 82) dX12_skyTold_33 rfl ?_
  refine go_getR (x := 119) dX12_skyTold_34 f12_123 sh82 (fun _ _ => rfl) (rf82_46 hR) ?_
  refine go_iconst (v := 4) dX12_skyTold_37 rfl ?_
  refine go_iald' (v := (h.1 119 4)) dX12_skyTold_38 sh119 (by unfold vp_in; decide) rfl ?_
  refine go_icmp_ge 77 dX12_skyTold_39 rfl (fun q => ?_) (fun q => ?_)
  · replace vc := vc.1 q
    refine go_aload_n (x := 82) dX12_skyTold_77 rfl ?_
    refine go_getI' (v := (h.1 82 5)) dX12_skyTold_78 f12_278 sh82 (fun _ _ => rfl) rfl ?_
    refine go_if_eq 85 dX12_skyTold_81 rfl (fun q => ?_) (fun q => ?_)
    · replace vc := vc.1 q
      refine go_aload_n (x := 82) dX12_skyTold_85 rfl ?_
      refine go_getR (x := 125) dX12_skyTold_86 f12_142 sh82 (fun _ _ => rfl) (rf82_52 hR) ?_
      refine go_iconst (v := 2) dX12_skyTold_89 rfl ?_
      refine go_aload_n (x := 82) dX12_skyTold_90 rfl ?_
      refine go_getR (x := 119) dX12_skyTold_91 f12_123 sh82 (fun _ _ => rfl) (rf82_46 hR) ?_
      refine go_iconst (v := 4) dX12_skyTold_94 rfl ?_
      refine go_iald' (v := (h.1 119 4)) dX12_skyTold_95 sh119 (by unfold vp_in; decide) rfl ?_
      refine go_imul dX12_skyTold_96 ?_
      refine go_iload_n (x := x3) dX12_skyTold_97 rfl ?_
      refine go_iast dX12_skyTold_98 sh125 vc.1 ?_
      have vc := vc.2
      show gg p l e s m args below meth c G (d + 1) MX12_skyTold Q 99 [some (.ref 82), some (.int x1), some (.int x2), some (.int x3), some (.int x4)] [] (sI h 125 ((2 * (h.1 119 4)) : Int32).toNatClampNeg x3)
      refine go_aload_n (x := 82) dX12_skyTold_99 rfl ?_
      refine go_getR (x := 125) dX12_skyTold_100 f12_142 sh82 (fun _ _ => rfl) (rf82_52 hR) ?_
      refine go_iconst (v := 2) dX12_skyTold_103 rfl ?_
      refine go_aload_n (x := 82) dX12_skyTold_104 rfl ?_
      refine go_getR (x := 119) dX12_skyTold_105 f12_123 sh82 (fun _ _ => rfl) (rf82_46 hR) ?_
      refine go_iconst (v := 4) dX12_skyTold_108 rfl ?_
      refine go_iald' (v := (h.1 119 4)) dX12_skyTold_109 sh119 (by unfold vp_in; decide) rfl ?_
      refine go_imul dX12_skyTold_110 ?_
      refine go_iconst (v := 1) dX12_skyTold_111 rfl ?_
      refine go_iadd dX12_skyTold_112 ?_
      refine go_iload_n (x := x1) dX12_skyTold_113 rfl ?_
      refine go_iast dX12_skyTold_114 sh125 vc.1 ?_
      have vc := vc.2
      show gg p l e s m args below meth c G (d + 1) MX12_skyTold Q 115 [some (.ref 82), some (.int x1), some (.int x2), some (.int x3), some (.int x4)] [] (sI (sI h 125 ((2 * (h.1 119 4)) : Int32).toNatClampNeg x3) 125 (((2 * (h.1 119 4)) + 1) : Int32).toNatClampNeg x1)
      refine go_aload_n (x := 82) dX12_skyTold_115 rfl ?_
      refine go_getR (x := 119) dX12_skyTold_116 f12_123 sh82 (fun _ _ => rfl) (rf82_46 hR) ?_
      refine go_iconst (v := 4) dX12_skyTold_119 rfl ?_
      refine go_dup2 dX12_skyTold_120 rfl rfl ?_
      refine go_iald' (v := (h.1 119 4)) dX12_skyTold_121 sh119 (by unfold vp_in; decide) rfl ?_
      refine go_iconst (v := 1) dX12_skyTold_122 rfl ?_
      refine go_iadd dX12_skyTold_123 ?_
      refine go_iast dX12_skyTold_124 sh119 (by unfold vp_in; decide) ?_
      exact go_vret dX12_skyTold_125 rfl vc rfl (Nat.le_refl _) (Nat.le_refl _)
    · replace vc := vc.2 q
      exact go_vret dX12_skyTold_84 rfl vc rfl (Nat.le_refl _) (Nat.le_refl _)
  · replace vc := vc.2 q
    refine go_aload_n (x := 82) dX12_skyTold_42 rfl ?_
    refine go_getI' (v := (h.1 82 5)) dX12_skyTold_43 f12_278 sh82 (fun _ _ => rfl) rfl ?_
    refine go_if_ne 71 dX12_skyTold_46 rfl (fun q => ?_) (fun q => ?_)
    · replace vc := vc.1 q
      refine go_iinc (x := x4) dX12_skyTold_71 rfl ?_
      show gg p l e s m args below meth c G (d + 1) MX12_skyTold Q 74 [some (.ref 82), some (.int x1), some (.int x2), some (.int x3), some (.int (x4 + 1))] [] h
      refine go_goto 31 dX12_skyTold_74 rfl ?_
      exact vc
    · replace vc := vc.2 q
      refine go_aload_n (x := 82) dX12_skyTold_49 rfl ?_
      refine go_getR (x := 125) dX12_skyTold_50 f12_142 sh82 (fun _ _ => rfl) (rf82_52 hR) ?_
      refine go_iconst (v := 2) dX12_skyTold_53 rfl ?_
      refine go_iload (x := x4) dX12_skyTold_54 rfl ?_
      refine go_imul dX12_skyTold_56 ?_
      refine go_iald' (v := (h.1 125 ((2 * x4) : Int32).toNatClampNeg)) dX12_skyTold_57 sh125 vc.1 rfl ?_
      have vc := vc.2
      refine go_iload_n (x := x3) dX12_skyTold_58 rfl ?_
      refine go_icmp_ne 71 dX12_skyTold_59 rfl (fun q => ?_) (fun q => ?_)
      · replace vc := vc.1 q
        refine go_iinc (x := x4) dX12_skyTold_71 rfl ?_
        show gg p l e s m args below meth c G (d + 1) MX12_skyTold Q 74 [some (.ref 82), some (.int x1), some (.int x2), some (.int x3), some (.int (x4 + 1))] [] h
        refine go_goto 31 dX12_skyTold_74 rfl ?_
        exact vc
      · replace vc := vc.2 q
        refine go_aload_n (x := 82) dX12_skyTold_62 rfl ?_
        refine go_iconst (v := 2) dX12_skyTold_63 rfl ?_
        refine go_aload_n (x := 82) dX12_skyTold_64 rfl ?_
        refine go_getI' (v := (h.1 82 10)) dX12_skyTold_65 f12_318 sh82 (fun _ _ => rfl) rfl ?_
        refine gvV2 MX12_fail dX12_skyTold_68 lX12_308 kX12_fail vX12_fail sh82 (by decide) rfl (Nat.le_of_ble_eq_true rfl) vc ?_
        intro h1 vc
        obtain ⟨hR1, vc⟩ := vc
        replace hR := hR1.trans hR
        refine go_iinc (x := x4) dX12_skyTold_71 rfl ?_
        show gg p l e s m args below meth c G (d + 1) MX12_skyTold Q 74 [some (.ref 82), some (.int x1), some (.int x2), some (.int x3), some (.int (x4 + 1))] [] h1
        refine go_goto 31 dX12_skyTold_74 rfl ?_
        exact vc
