set_option maxRecDepth 20000 in
theorem wX12_name_0 {p : Program} {l : Launch} {e : Env} {s : State} {m : MethodId} {args : Array Value} {below : List Frame} {meth : Method} {c : Code} {G : gG} {d : Nat} {Q : Option Value → gH → Prop} {h : gH} {lk sp : Nat} {cd : Option Nat}  (hR : h.2.2 = gRF lk sp cd) (hlk : lk = 30 ∨ lk = 67) (hsp : sp = 30 ∨ sp = 67)  (vc : (((h.1 82 5) = 0 → gC l G d MX12_look [.ref 82] h (rI fun v1 h1 => h1.2.2 = (h).2.2 ∧ gC l G d MX12_isLetter [.int v1] h1 (rI fun v2 h2 => h2.2.2 = (h1).2.2 ∧ ((v2 = 0 → gC l G d MX12_fail [.ref 82, .int 1, .int (h2.1 82 2)] h2 (rV fun h3 => h3.2.2 = (h2).2.2 ∧ Q (some (.long 0)) h3)) ∧ (¬ v2 = 0 → (((h2.1 82 2) = (h2.1 82 4) → gC l G d MX12_fail [.ref 82, .int 1, .int (h2.1 82 2)] h2 (rV fun h4 => h4.2.2 = (h2).2.2 ∧ Q (some (.long 0)) h4)) ∧ (¬ (h2.1 82 2) = (h2.1 82 4) → gC l G d MX12_isOwnHere [.ref 82] h2 (rI fun v5 h5 => h5.2.2 = (h2).2.2 ∧ ((v5 = 0 → gg p l e s m args below meth c G (d + 1) MX12_name Q 58 [some (.ref 82), some (.long 0), none] [] (sI h5 82 45 (h5.1 82 2))) ∧ (¬ v5 = 0 → gC l G d MX12_fail [.ref 82, .int 1, .int (h5.1 82 2)] h5 (rV fun h6 => h6.2.2 = (h5).2.2 ∧ Q (some (.long 0)) h6))))))))))) ∧ (¬ (h.1 82 5) = 0 → Q (some (.long 0)) h))) : gg p l e s m args below meth c G (d + 1) MX12_name Q 0 [some (.ref 82), none, none] [] h := by
  refine go_aload_n (x := 82) dX12_name_0 rfl ?_
  refine go_getI' (v := (h.1 82 5)) dX12_name_1 f12_278 sh82 (fun _ _ => rfl) rfl ?_
  refine go_if_eq 9 dX12_name_4 rfl (fun q => ?_) (fun q => ?_)
  · replace vc := vc.1 q
    refine go_aload_n (x := 82) dX12_name_9 rfl ?_
    refine gvI0 MX12_look dX12_name_10 lX12_290 kX12_look vX12_look sh82 (by decide) rfl (Nat.le_of_ble_eq_true rfl) vc ?_
    intro v1 h1 vc
    obtain ⟨hR1, vc⟩ := vc
    replace hR := hR1.trans hR
    refine gsI1 MX12_isLetter dX12_name_13 lX12_294 kX12_isLetter sX12_isLetter (Nat.le_of_ble_eq_true rfl) vc ?_
    intro v2 h2 vc
    obtain ⟨hR2, vc⟩ := vc
    replace hR := hR2.trans hR
    refine go_if_eq 37 dX12_name_16 rfl (fun q => ?_) (fun q => ?_)
    · replace vc := vc.1 q
      refine go_aload_n (x := 82) dX12_name_37 rfl ?_
      refine go_iconst (v := 1) dX12_name_38 rfl ?_
      refine go_aload_n (x := 82) dX12_name_39 rfl ?_
      refine go_getI' (v := (h2.1 82 2)) dX12_name_40 f12_284 sh82 (fun _ _ => rfl) rfl ?_
      refine gvV2 MX12_fail dX12_name_43 lX12_308 kX12_fail vX12_fail sh82 (by decide) rfl (Nat.le_of_ble_eq_true rfl) vc ?_
      intro h3 vc
      obtain ⟨hR3, vc⟩ := vc
      replace hR := hR3.trans hR
      refine go_lconst (v := 0) dX12_name_46 rfl ?_
      exact go_lret dX12_name_47 rfl vc rfl (Nat.le_refl _) (Nat.le_refl _)
    · replace vc := vc.2 q
      refine go_aload_n (x := 82) dX12_name_19 rfl ?_
      refine go_getI' (v := (h2.1 82 2)) dX12_name_20 f12_284 sh82 (fun _ _ => rfl) rfl ?_
      refine go_aload_n (x := 82) dX12_name_23 rfl ?_
      refine go_getI' (v := (h2.1 82 4)) dX12_name_24 f12_298 sh82 (fun _ _ => rfl) rfl ?_
      refine go_icmp_eq 37 dX12_name_27 rfl (fun q => ?_) (fun q => ?_)
      · replace vc := vc.1 q
        refine go_aload_n (x := 82) dX12_name_37 rfl ?_
        refine go_iconst (v := 1) dX12_name_38 rfl ?_
        refine go_aload_n (x := 82) dX12_name_39 rfl ?_
        refine go_getI' (v := (h2.1 82 2)) dX12_name_40 f12_284 sh82 (fun _ _ => rfl) rfl ?_
        refine gvV2 MX12_fail dX12_name_43 lX12_308 kX12_fail vX12_fail sh82 (by decide) rfl (Nat.le_of_ble_eq_true rfl) vc ?_
        intro h4 vc
        obtain ⟨hR4, vc⟩ := vc
        replace hR := hR4.trans hR
        refine go_lconst (v := 0) dX12_name_46 rfl ?_
        exact go_lret dX12_name_47 rfl vc rfl (Nat.le_refl _) (Nat.le_refl _)
      · replace vc := vc.2 q
        refine go_aload_n (x := 82) dX12_name_30 rfl ?_
        refine gvI0 MX12_isOwnHere dX12_name_31 lX12_325 kX12_isOwnHere vX12_isOwnHere sh82 (by decide) rfl (Nat.le_of_ble_eq_true rfl) vc ?_
        intro v5 h5 vc
        obtain ⟨hR5, vc⟩ := vc
        replace hR := hR5.trans hR
        refine go_if_eq 48 dX12_name_34 rfl (fun q => ?_) (fun q => ?_)
        · replace vc := vc.1 q
          refine go_aload_n (x := 82) dX12_name_48 rfl ?_
          refine go_aload_n (x := 82) dX12_name_49 rfl ?_
          refine go_getI' (v := (h5.1 82 2)) dX12_name_50 f12_284 sh82 (fun _ _ => rfl) rfl ?_
          refine go_putI dX12_name_53 f12_329 sh82 rfl rfl ?_
          refine go_lconst (v := 0) dX12_name_56 rfl ?_
          refine go_lstore_n dX12_name_57 (Nat.le_of_ble_eq_true rfl) ?_
          show gg p l e s m args below meth c G (d + 1) MX12_name Q 58 [some (.ref 82), some (.long 0), none] [] (sI h5 82 45 (h5.1 82 2))
          exact vc
        · replace vc := vc.2 q
          refine go_aload_n (x := 82) dX12_name_37 rfl ?_
          refine go_iconst (v := 1) dX12_name_38 rfl ?_
          refine go_aload_n (x := 82) dX12_name_39 rfl ?_
          refine go_getI' (v := (h5.1 82 2)) dX12_name_40 f12_284 sh82 (fun _ _ => rfl) rfl ?_
          refine gvV2 MX12_fail dX12_name_43 lX12_308 kX12_fail vX12_fail sh82 (by decide) rfl (Nat.le_of_ble_eq_true rfl) vc ?_
          intro h6 vc
          obtain ⟨hR6, vc⟩ := vc
          replace hR := hR6.trans hR
          refine go_lconst (v := 0) dX12_name_46 rfl ?_
          exact go_lret dX12_name_47 rfl vc rfl (Nat.le_refl _) (Nat.le_refl _)
  · replace vc := vc.2 q
    refine go_lconst (v := 0) dX12_name_7 rfl ?_
    exact go_lret dX12_name_8 rfl vc rfl (Nat.le_refl _) (Nat.le_refl _)
set_option maxRecDepth 20000 in
theorem wX12_name_58 {p : Program} {l : Launch} {e : Env} {s : State} {m : MethodId} {args : Array Value} {below : List Frame} {meth : Method} {c : Code} {G : gG} {d : Nat} {Q : Option Value → gH → Prop} {h : gH} {lk sp : Nat} {cd : Option Nat} {x1 : Int64} (hR : h.2.2 = gRF lk sp cd) (hlk : lk = 30 ∨ lk = 67) (hsp : sp = 30 ∨ sp = 67)  (vc : (((h.1 82 3) ≤ (h.1 82 2) → Q (some (.long x1)) (sI h 82 4 (h.1 82 2))) ∧ (¬ (h.1 82 3) ≤ (h.1 82 2) → (vp_in ((h.1 82 2)) 1600 ∧ gC l G d MX12_isLetter [.int (h.1 83 ((h.1 82 2) : Int32).toNatClampNeg)] h (rI fun v1 h1 => h1.2.2 = (h).2.2 ∧ ((v1 = 0 → Q (some (.long x1)) (sI h1 82 4 (h1.1 82 2))) ∧ (¬ v1 = 0 → ((¬ ((h1.1 82 2) - (h1.1 82 45)) = 6 → (vp_in ((h1.1 82 2)) 1600 ∧ gg p l e s m args below meth c G (d + 1) MX12_name Q 58 [some (.ref 82), some (.long ((((27 * x1) + ((h1.1 83 ((h1.1 82 2) : Int32).toNatClampNeg) : Int32).toInt64) - 97) + 1)), none] [] (sI h1 82 2 ((h1.1 82 2) + 1)))) ∧ (((h1.1 82 2) - (h1.1 82 45)) = 6 → gC l G d MX12_fail [.ref 82, .int 1, .int (h1.1 82 2)] h1 (rV fun h2 => h2.2.2 = (h1).2.2 ∧ Q (some (.long 0)) h2)))))))))) : gg p l e s m args below meth c G (d + 1) MX12_name Q 58 [some (.ref 82), some (.long x1), none] [] h := by
  refine go_aload_n (x := 82) dX12_name_58 rfl ?_
  refine go_getI' (v := (h.1 82 2)) dX12_name_59 f12_284 sh82 (fun _ _ => rfl) rfl ?_
  refine go_aload_n (x := 82) dX12_name_62 rfl ?_
  refine go_getI' (v := (h.1 82 3)) dX12_name_63 f12_287 sh82 (fun _ _ => rfl) rfl ?_
  refine go_icmp_ge 145 dX12_name_66 rfl (fun q => ?_) (fun q => ?_)
  · replace vc := vc.1 q
    refine go_aload_n (x := 82) dX12_name_145 rfl ?_
    refine go_aload_n (x := 82) dX12_name_146 rfl ?_
    refine go_getI' (v := (h.1 82 2)) dX12_name_147 f12_284 sh82 (fun _ _ => rfl) rfl ?_
    refine go_putI dX12_name_150 f12_298 sh82 rfl rfl ?_
    refine go_lload_n (x := x1) dX12_name_153 rfl ?_
    exact go_lret dX12_name_154 rfl vc rfl (Nat.le_refl _) (Nat.le_refl _)
  · replace vc := vc.2 q
    refine go_aload_n (x := 82) dX12_name_69 rfl ?_
    refine go_getR (x := 83) dX12_name_70 f12_7 sh82 (fun _ _ => rfl) (rf82_0 hR) ?_
    refine go_aload_n (x := 82) dX12_name_73 rfl ?_
    refine go_getI' (v := (h.1 82 2)) dX12_name_74 f12_284 sh82 (fun _ _ => rfl) rfl ?_
    refine go_iald' (v := (h.1 83 ((h.1 82 2) : Int32).toNatClampNeg)) dX12_name_77 sh83 vc.1 rfl ?_
    have vc := vc.2
    refine gsI1 MX12_isLetter dX12_name_78 lX12_294 kX12_isLetter sX12_isLetter (Nat.le_of_ble_eq_true rfl) vc ?_
    intro v1 h1 vc
    obtain ⟨hR1, vc⟩ := vc
    replace hR := hR1.trans hR
    refine go_if_eq 145 dX12_name_81 rfl (fun q => ?_) (fun q => ?_)
    · replace vc := vc.1 q
      refine go_aload_n (x := 82) dX12_name_145 rfl ?_
      refine go_aload_n (x := 82) dX12_name_146 rfl ?_
      refine go_getI' (v := (h1.1 82 2)) dX12_name_147 f12_284 sh82 (fun _ _ => rfl) rfl ?_
      refine go_putI dX12_name_150 f12_298 sh82 rfl rfl ?_
      refine go_lload_n (x := x1) dX12_name_153 rfl ?_
      exact go_lret dX12_name_154 rfl vc rfl (Nat.le_refl _) (Nat.le_refl _)
    · replace vc := vc.2 q
      refine go_aload_n (x := 82) dX12_name_84 rfl ?_
      refine go_getI' (v := (h1.1 82 2)) dX12_name_85 f12_284 sh82 (fun _ _ => rfl) rfl ?_
      refine go_aload_n (x := 82) dX12_name_88 rfl ?_
      refine go_getI' (v := (h1.1 82 45)) dX12_name_89 f12_329 sh82 (fun _ _ => rfl) rfl ?_
      refine go_isub dX12_name_92 ?_
      refine go_bipush (v := 6) dX12_name_93 rfl ?_
      refine go_icmp_ne 109 dX12_name_95 rfl (fun q => ?_) (fun q => ?_)
      · replace vc := vc.1 q
        refine go_ldc2 (v := 27) dX12_name_109 nX12_332 ?_
        refine go_lload_n (x := x1) dX12_name_112 rfl ?_
        refine go_lmul dX12_name_113 ?_
        refine go_aload_n (x := 82) dX12_name_114 rfl ?_
        refine go_getR (x := 83) dX12_name_115 f12_7 sh82 (fun _ _ => rfl) (rf82_0 hR) ?_
        refine go_aload_n (x := 82) dX12_name_118 rfl ?_
        refine go_getI' (v := (h1.1 82 2)) dX12_name_119 f12_284 sh82 (fun _ _ => rfl) rfl ?_
        refine go_iald' (v := (h1.1 83 ((h1.1 82 2) : Int32).toNatClampNeg)) dX12_name_122 sh83 vc.1 rfl ?_
        have vc := vc.2
        refine go_i2l dX12_name_123 ?_
        refine go_ladd dX12_name_124 ?_
        refine go_ldc2 (v := 97) dX12_name_125 nX12_334 ?_
        refine go_lsub dX12_name_128 ?_
        refine go_lconst (v := 1) dX12_name_129 rfl ?_
        refine go_ladd dX12_name_130 ?_
        refine go_lstore_n dX12_name_131 (Nat.le_of_ble_eq_true rfl) ?_
        show gg p l e s m args below meth c G (d + 1) MX12_name Q 132 [some (.ref 82), some (.long ((((27 * x1) + ((h1.1 83 ((h1.1 82 2) : Int32).toNatClampNeg) : Int32).toInt64) - 97) + 1)), none] [] h1
        refine go_aload_n (x := 82) dX12_name_132 rfl ?_
        refine go_dup dX12_name_133 rfl ?_
        refine go_getI' (v := (h1.1 82 2)) dX12_name_134 f12_284 sh82 (fun _ _ => rfl) rfl ?_
        refine go_iconst (v := 1) dX12_name_137 rfl ?_
        refine go_iadd dX12_name_138 ?_
        refine go_putI dX12_name_139 f12_284 sh82 rfl rfl ?_
        refine go_goto 58 dX12_name_142 rfl ?_
        exact vc
      · replace vc := vc.2 q
        refine go_aload_n (x := 82) dX12_name_98 rfl ?_
        refine go_iconst (v := 1) dX12_name_99 rfl ?_
        refine go_aload_n (x := 82) dX12_name_100 rfl ?_
        refine go_getI' (v := (h1.1 82 2)) dX12_name_101 f12_284 sh82 (fun _ _ => rfl) rfl ?_
        refine gvV2 MX12_fail dX12_name_104 lX12_308 kX12_fail vX12_fail sh82 (by decide) rfl (Nat.le_of_ble_eq_true rfl) vc ?_
        intro h2 vc
        obtain ⟨hR2, vc⟩ := vc
        replace hR := hR2.trans hR
        refine go_lconst (v := 0) dX12_name_107 rfl ?_
        exact go_lret dX12_name_108 rfl vc rfl (Nat.le_refl _) (Nat.le_refl _)
set_option maxRecDepth 20000 in
theorem wX12_isFull_0 {p : Program} {l : Launch} {e : Env} {s : State} {m : MethodId} {args : Array Value} {below : List Frame} {meth : Method} {c : Code} {G : gG} {d : Nat} {Q : Option Value → gH → Prop} {h : gH} {lk sp : Nat} {cd : Option Nat} {a1 : Int32} {a2 : Int32} {a3 : Int32} (hR : h.2.2 = gRF lk sp cd) (hlk : lk = 30 ∨ lk = 67) (hsp : sp = 30 ∨ sp = 67)  (vc : ((¬ (h.1 82 5) = 0 → (((h.1 82 5) = 0 → Q (some (.int 0)) h) ∧ (¬ (h.1 82 5) = 0 → Q (some (.int 1)) h))) ∧ ((h.1 82 5) = 0 → (vp_in a1 10 ∧ ((¬ (h.1 119 a1.toNatClampNeg) = a2 → (((h.1 82 5) = 0 → Q (some (.int 0)) h) ∧ (¬ (h.1 82 5) = 0 → Q (some (.int 1)) h))) ∧ ((h.1 119 a1.toNatClampNeg) = a2 → gC l G d MX12_fail [.ref 82, .int 5, .int a3] h (rV fun h1 => h1.2.2 = (h).2.2 ∧ (((h1.1 82 5) = 0 → Q (some (.int 0)) h1) ∧ (¬ (h1.1 82 5) = 0 → Q (some (.int 1)) h1))))))))) : gg p l e s m args below meth c G (d + 1) MX12_isFull Q 0 [some (.ref 82), some (.int a1), some (.int a2), some (.int a3)] [] h := by
  refine go_aload_n (x := 82) dX12_isFull_0 rfl ?_
  refine go_getI' (v := (h.1 82 5)) dX12_isFull_1 f12_278 sh82 (fun _ _ => rfl) rfl ?_
  refine go_if_ne 23 dX12_isFull_4 rfl (fun q => ?_) (fun q => ?_)
  · replace vc := vc.1 q
    refine go_aload_n (x := 82) dX12_isFull_23 rfl ?_
    refine go_getI' (v := (h.1 82 5)) dX12_isFull_24 f12_278 sh82 (fun _ _ => rfl) rfl ?_
    refine go_if_eq 34 dX12_isFull_27 rfl (fun q => ?_) (fun q => ?_)
    · replace vc := vc.1 q
      refine go_iconst (v := 0) dX12_isFull_34 rfl ?_
      exact go_zret dX12_isFull_35 rfl (by decide) vc rfl (Nat.le_refl _) (Nat.le_refl _)
    · replace vc := vc.2 q
      refine go_iconst (v := 1) dX12_isFull_30 rfl ?_
      refine go_goto 35 dX12_isFull_31 rfl ?_
      exact go_zret dX12_isFull_35 rfl (by decide) vc rfl (Nat.le_refl _) (Nat.le_refl _)
  · replace vc := vc.2 q
    refine go_aload_n (x := 82) dX12_isFull_7 rfl ?_
    refine go_getR (x := 119) dX12_isFull_8 f12_123 sh82 (fun _ _ => rfl) (rf82_46 hR) ?_
    refine go_iload_n (x := a1) dX12_isFull_11 rfl ?_
    refine go_iald' (v := (h.1 119 a1.toNatClampNeg)) dX12_isFull_12 sh119 vc.1 rfl ?_
    have vc := vc.2
    refine go_iload_n (x := a2) dX12_isFull_13 rfl ?_
    refine go_icmp_ne 23 dX12_isFull_14 rfl (fun q => ?_) (fun q => ?_)
    · replace vc := vc.1 q
      refine go_aload_n (x := 82) dX12_isFull_23 rfl ?_
      refine go_getI' (v := (h.1 82 5)) dX12_isFull_24 f12_278 sh82 (fun _ _ => rfl) rfl ?_
      refine go_if_eq 34 dX12_isFull_27 rfl (fun q => ?_) (fun q => ?_)
      · replace vc := vc.1 q
        refine go_iconst (v := 0) dX12_isFull_34 rfl ?_
        exact go_zret dX12_isFull_35 rfl (by decide) vc rfl (Nat.le_refl _) (Nat.le_refl _)
      · replace vc := vc.2 q
        refine go_iconst (v := 1) dX12_isFull_30 rfl ?_
        refine go_goto 35 dX12_isFull_31 rfl ?_
        exact go_zret dX12_isFull_35 rfl (by decide) vc rfl (Nat.le_refl _) (Nat.le_refl _)
    · replace vc := vc.2 q
      refine go_aload_n (x := 82) dX12_isFull_17 rfl ?_
      refine go_iconst (v := 5) dX12_isFull_18 rfl ?_
      refine go_iload_n (x := a3) dX12_isFull_19 rfl ?_
      refine gvV2 MX12_fail dX12_isFull_20 lX12_308 kX12_fail vX12_fail sh82 (by decide) rfl (Nat.le_of_ble_eq_true rfl) vc ?_
      intro h1 vc
      obtain ⟨hR1, vc⟩ := vc
      replace hR := hR1.trans hR
      refine go_aload_n (x := 82) dX12_isFull_23 rfl ?_
      refine go_getI' (v := (h1.1 82 5)) dX12_isFull_24 f12_278 sh82 (fun _ _ => rfl) rfl ?_
      refine go_if_eq 34 dX12_isFull_27 rfl (fun q => ?_) (fun q => ?_)
      · replace vc := vc.1 q
        refine go_iconst (v := 0) dX12_isFull_34 rfl ?_
        exact go_zret dX12_isFull_35 rfl (by decide) vc rfl (Nat.le_refl _) (Nat.le_refl _)
      · replace vc := vc.2 q
        refine go_iconst (v := 1) dX12_isFull_30 rfl ?_
        refine go_goto 35 dX12_isFull_31 rfl ?_
        exact go_zret dX12_isFull_35 rfl (by decide) vc rfl (Nat.le_refl _) (Nat.le_refl _)
set_option maxRecDepth 20000 in
theorem wX12_nameOf_0 {p : Program} {l : Launch} {e : Env} {s : State} {m : MethodId} {args : Array Value} {below : List Frame} {meth : Method} {c : Code} {G : gG} {d : Nat} {Q : Option Value → gH → Prop} {h : gH} {lk sp : Nat} {cd : Option Nat} {a1 : Int32} {a2 : Int64} (hR : h.2.2 = gRF lk sp cd) (hlk : lk = 30 ∨ lk = 67) (hsp : sp = 30 ∨ sp = 67)  (vc : gg p l e s m args below meth c G d MX12_nameOf Q 3 [some (.ref 82), some (.int a1), some (.long a2), none, some (.int 0)] [] h) : gg p l e s m args below meth c G d MX12_nameOf Q 0 [some (.ref 82), some (.int a1), some (.long a2), none, none] [] h := by
  refine go_iconst (v := 0) dX12_nameOf_0 rfl ?_
  refine go_istore dX12_nameOf_1 (Nat.le_of_ble_eq_true rfl) ?_
  show gg p l e s m args below meth c G d MX12_nameOf Q 3 [some (.ref 82), some (.int a1), some (.long a2), none, some (.int 0)] [] h
  exact vc
set_option maxRecDepth 20000 in
theorem wX12_nameOf_3 {p : Program} {l : Launch} {e : Env} {s : State} {m : MethodId} {args : Array Value} {below : List Frame} {meth : Method} {c : Code} {G : gG} {d : Nat} {Q : Option Value → gH → Prop} {h : gH} {lk sp : Nat} {cd : Option Nat} {x1 : Int32} {x2 : Int64} {x4 : Int32} (hR : h.2.2 = gRF lk sp cd) (hlk : lk = 30 ∨ lk = 67) (hsp : sp = 30 ∨ sp = 67)  (vc : (vp_in ((2 + x1)) 10 ∧ (((h.1 119 ((2 + x1) : Int32).toNatClampNeg) ≤ x4 → Q (some (.int (-1))) h) ∧ (¬ (h.1 119 ((2 + x1) : Int32).toNatClampNeg) ≤ x4 → (vp_in (((6 * x1) + x4)) 24 ∧ ((¬ (lg_cmp (h.2.1 120 (((6 * x1) + x4) : Int32).toNatClampNeg) x2) = 0 → gg p l e s m args below meth c G d MX12_nameOf Q 3 [some (.ref 82), some (.int x1), some (.long x2), none, some (.int (x4 + 1))] [] h) ∧ ((lg_cmp (h.2.1 120 (((6 * x1) + x4) : Int32).toNatClampNeg) x2) = 0 → Q (some (.int x4)) h))))))) : gg p l e s m args below meth c G d MX12_nameOf Q 3 [some (.ref 82), some (.int x1), some (.long x2), none, some (.int x4)] [] h := by
  refine go_iload (x := x4) dX12_nameOf_3 rfl ?_
  refine go_aload_n (x := 82) dX12_nameOf_5 rfl ?_
  refine go_getR (x := 119) dX12_nameOf_6 f12_123 sh82 (fun _ _ => rfl) (rf82_46 hR) ?_
  refine go_iconst (v := 2) dX12_nameOf_9 rfl ?_
  refine go_iload_n (x := x1) dX12_nameOf_10 rfl ?_
  refine go_iadd dX12_nameOf_11 ?_
  refine go_iald' (v := (h.1 119 ((2 + x1) : Int32).toNatClampNeg)) dX12_nameOf_12 sh119 vc.1 rfl ?_
  have vc := vc.2
  refine go_icmp_ge 42 dX12_nameOf_13 rfl (fun q => ?_) (fun q => ?_)
  · replace vc := vc.1 q
    refine go_iconst (v := (-1)) dX12_nameOf_42 rfl ?_
    exact go_iret dX12_nameOf_43 rfl vc rfl (Nat.le_refl _) (Nat.le_refl _)
  · replace vc := vc.2 q
    refine go_aload_n (x := 82) dX12_nameOf_16 rfl ?_
    refine go_getR (x := 120) dX12_nameOf_17 f12_126 sh82 (fun _ _ => rfl) (rf82_47 hR) ?_
    refine go_bipush (v := 6) dX12_nameOf_20 rfl ?_
    refine go_iload_n (x := x1) dX12_nameOf_22 rfl ?_
    refine go_imul dX12_nameOf_23 ?_
    refine go_iload (x := x4) dX12_nameOf_24 rfl ?_
    refine go_iadd dX12_nameOf_26 ?_
    refine go_lald' (v := (h.2.1 120 (((6 * x1) + x4) : Int32).toNatClampNeg)) dX12_nameOf_27 sh120 vc.1 rfl ?_
    have vc := vc.2
    refine go_lload_n (x := x2) dX12_nameOf_28 rfl ?_
    refine go_lcmp dX12_nameOf_29 ?_
    refine go_if_ne 36 dX12_nameOf_30 rfl (fun q => ?_) (fun q => ?_)
    · replace vc := vc.1 q
      refine go_iinc (x := x4) dX12_nameOf_36 rfl ?_
      show gg p l e s m args below meth c G d MX12_nameOf Q 39 [some (.ref 82), some (.int x1), some (.long x2), none, some (.int (x4 + 1))] [] h
      refine go_goto 3 dX12_nameOf_39 rfl ?_
      exact vc
    · replace vc := vc.2 q
      refine go_iload (x := x4) dX12_nameOf_33 rfl ?_
      exact go_iret dX12_nameOf_35 rfl vc rfl (Nat.le_refl _) (Nat.le_refl _)
set_option maxRecDepth 20000 in
theorem wX12_newName_0 {p : Program} {l : Launch} {e : Env} {s : State} {m : MethodId} {args : Array Value} {below : List Frame} {meth : Method} {c : Code} {G : gG} {d : Nat} {Q : Option Value → gH → Prop} {h : gH} {lk sp : Nat} {cd : Option Nat}  (hR : h.2.2 = gRF lk sp cd) (hlk : lk = 30 ∨ lk = 67) (hsp : sp = 30 ∨ sp = 67)  (vc : gC l G d MX12_name [.ref 82] h (rL fun v1 h1 => h1.2.2 = (h).2.2 ∧ gg p l e s m args below meth c G (d + 1) MX12_newName Q 7 [some (.ref 82), some (.long v1), none, some (.int 0)] [] h1)) : gg p l e s m args below meth c G (d + 1) MX12_newName Q 0 [some (.ref 82), none, none, none] [] h := by
  refine go_aload_n (x := 82) dX12_newName_0 rfl ?_
  refine gvL0 MX12_name dX12_newName_1 lX12_336 kX12_name vX12_name sh82 (by decide) rfl (Nat.le_of_ble_eq_true rfl) vc ?_
  intro v1 h1 vc
  obtain ⟨hR1, vc⟩ := vc
  replace hR := hR1.trans hR
  refine go_lstore_n dX12_newName_4 (Nat.le_of_ble_eq_true rfl) ?_
  show gg p l e s m args below meth c G (d + 1) MX12_newName Q 5 [some (.ref 82), some (.long v1), none, none] [] h1
  refine go_iconst (v := 0) dX12_newName_5 rfl ?_
  refine go_istore_n dX12_newName_6 (Nat.le_of_ble_eq_true rfl) ?_
  show gg p l e s m args below meth c G (d + 1) MX12_newName Q 7 [some (.ref 82), some (.long v1), none, some (.int 0)] [] h1
  exact vc
set_option maxRecDepth 20000 in
theorem wX12_newName_7 {p : Program} {l : Launch} {e : Env} {s : State} {m : MethodId} {args : Array Value} {below : List Frame} {meth : Method} {c : Code} {G : gG} {d : Nat} {Q : Option Value → gH → Prop} {h : gH} {lk sp : Nat} {cd : Option Nat} {x1 : Int64} {x3 : Int32} (hR : h.2.2 = gRF lk sp cd) (hlk : lk = 30 ∨ lk = 67) (hsp : sp = 30 ∨ sp = 67)  (vc : ((2 ≤ x3 → Q (some (.long x1)) h) ∧ (¬ 2 ≤ x3 → ((¬ (h.1 82 5) = 0 → gg p l e s m args below meth c G (d + 1) MX12_newName Q 7 [some (.ref 82), some (.long x1), none, some (.int (x3 + 1))] [] h) ∧ ((h.1 82 5) = 0 → gC l G d MX12_nameOf [.ref 82, .int x3, .long x1] h (rI fun v1 h1 => h1.2.2 = (h).2.2 ∧ ((v1 = (-1) → gg p l e s m args below meth c G (d + 1) MX12_newName Q 7 [some (.ref 82), some (.long x1), none, some (.int (x3 + 1))] [] h1) ∧ (¬ v1 = (-1) → gC l G d MX12_fail [.ref 82, .int 3, .int (h1.1 82 45)] h1 (rV fun h2 => h2.2.2 = (h1).2.2 ∧ gg p l e s m args below meth c G (d + 1) MX12_newName Q 7 [some (.ref 82), some (.long x1), none, some (.int (x3 + 1))] [] h2))))))))) : gg p l e s m args below meth c G (d + 1) MX12_newName Q 7 [some (.ref 82), some (.long x1), none, some (.int x3)] [] h := by
  refine go_iload_n (x := x3) dX12_newName_7 rfl ?_
  refine go_iconst (v := 2) dX12_newName_8 rfl ?_
  refine go_icmp_ge 44 dX12_newName_9 rfl (fun q => ?_) (fun q => ?_)
  · replace vc := vc.1 q
    refine go_lload_n (x := x1) dX12_newName_44 rfl ?_
    exact go_lret dX12_newName_45 rfl vc rfl (Nat.le_refl _) (Nat.le_refl _)
  · replace vc := vc.2 q
    refine go_aload_n (x := 82) dX12_newName_12 rfl ?_
    refine go_getI' (v := (h.1 82 5)) dX12_newName_13 f12_278 sh82 (fun _ _ => rfl) rfl ?_
    refine go_if_ne 38 dX12_newName_16 rfl (fun q => ?_) (fun q => ?_)
    · replace vc := vc.1 q
      refine go_iinc (x := x3) dX12_newName_38 rfl ?_
      show gg p l e s m args below meth c G (d + 1) MX12_newName Q 41 [some (.ref 82), some (.long x1), none, some (.int (x3 + 1))] [] h
      refine go_goto 7 dX12_newName_41 rfl ?_
      exact vc
    · replace vc := vc.2 q
      refine go_aload_n (x := 82) dX12_newName_19 rfl ?_
      refine go_iload_n (x := x3) dX12_newName_20 rfl ?_
      refine go_lload_n (x := x1) dX12_newName_21 rfl ?_
      refine gvI2 MX12_nameOf dX12_newName_22 lX12_340 kX12_nameOf vX12_nameOf sh82 (by decide) rfl (Nat.le_of_ble_eq_true rfl) vc ?_
      intro v1 h1 vc
      obtain ⟨hR1, vc⟩ := vc
      replace hR := hR1.trans hR
      refine go_iconst (v := (-1)) dX12_newName_25 rfl ?_
      refine go_icmp_eq 38 dX12_newName_26 rfl (fun q => ?_) (fun q => ?_)
      · replace vc := vc.1 q
        refine go_iinc (x := x3) dX12_newName_38 rfl ?_
        show gg p l e s m args below meth c G (d + 1) MX12_newName Q 41 [some (.ref 82), some (.long x1), none, some (.int (x3 + 1))] [] h1
        refine go_goto 7 dX12_newName_41 rfl ?_
        exact vc
      · replace vc := vc.2 q
        refine go_aload_n (x := 82) dX12_newName_29 rfl ?_
        refine go_iconst (v := 3) dX12_newName_30 rfl ?_
        refine go_aload_n (x := 82) dX12_newName_31 rfl ?_
        refine go_getI' (v := (h1.1 82 45)) dX12_newName_32 f12_329 sh82 (fun _ _ => rfl) rfl ?_
        refine gvV2 MX12_fail dX12_newName_35 lX12_308 kX12_fail vX12_fail sh82 (by decide) rfl (Nat.le_of_ble_eq_true rfl) vc ?_
        intro h2 vc
        obtain ⟨hR2, vc⟩ := vc
        replace hR := hR2.trans hR
        refine go_iinc (x := x3) dX12_newName_38 rfl ?_
        show gg p l e s m args below meth c G (d + 1) MX12_newName Q 41 [some (.ref 82), some (.long x1), none, some (.int (x3 + 1))] [] h2
        refine go_goto 7 dX12_newName_41 rfl ?_
        exact vc
set_option maxRecDepth 20000 in
theorem wX12_oneOf_0 {p : Program} {l : Launch} {e : Env} {s : State} {m : MethodId} {args : Array Value} {below : List Frame} {meth : Method} {c : Code} {G : gG} {d : Nat} {Q : Option Value → gH → Prop} {h : gH} {lk sp : Nat} {cd : Option Nat} {a1 : Int32} (hR : h.2.2 = gRF lk sp cd) (hlk : lk = 30 ∨ lk = 67) (hsp : sp = 30 ∨ sp = 67)  (vc : gC l G d MX12_name [.ref 82] h (rL fun v1 h1 => h1.2.2 = (h).2.2 ∧ gC l G d MX12_nameOf [.ref 82, .int a1, .long v1] h1 (rI fun v2 h2 => h2.2.2 = (h1).2.2 ∧ ((¬ (h2.1 82 5) = 0 → ((¬ (h2.1 82 5) = 0 → Q (some (.int 0)) h2) ∧ ((h2.1 82 5) = 0 → Q (some (.int v2)) h2))) ∧ ((h2.1 82 5) = 0 → ((¬ v2 = (-1) → ((¬ (h2.1 82 5) = 0 → Q (some (.int 0)) h2) ∧ ((h2.1 82 5) = 0 → Q (some (.int v2)) h2))) ∧ (v2 = (-1) → gC l G d MX12_fail [.ref 82, .int 3, .int (h2.1 82 45)] h2 (rV fun h3 => h3.2.2 = (h2).2.2 ∧ ((¬ (h3.1 82 5) = 0 → Q (some (.int 0)) h3) ∧ ((h3.1 82 5) = 0 → Q (some (.int v2)) h3)))))))))) : gg p l e s m args below meth c G (d + 1) MX12_oneOf Q 0 [some (.ref 82), some (.int a1), none, none, none] [] h := by
  refine go_aload_n (x := 82) dX12_oneOf_0 rfl ?_
  refine gvL0 MX12_name dX12_oneOf_1 lX12_336 kX12_name vX12_name sh82 (by decide) rfl (Nat.le_of_ble_eq_true rfl) vc ?_
  intro v1 h1 vc
  obtain ⟨hR1, vc⟩ := vc
  replace hR := hR1.trans hR
  refine go_lstore_n dX12_oneOf_4 (Nat.le_of_ble_eq_true rfl) ?_
  show gg p l e s m args below meth c G (d + 1) MX12_oneOf Q 5 [some (.ref 82), some (.int a1), some (.long v1), none, none] [] h1
  refine go_aload_n (x := 82) dX12_oneOf_5 rfl ?_
  refine go_iload_n (x := a1) dX12_oneOf_6 rfl ?_
  refine go_lload_n (x := v1) dX12_oneOf_7 rfl ?_
  refine gvI2 MX12_nameOf dX12_oneOf_8 lX12_340 kX12_nameOf vX12_nameOf sh82 (by decide) rfl (Nat.le_of_ble_eq_true rfl) vc ?_
  intro v2 h2 vc
  obtain ⟨hR2, vc⟩ := vc
  replace hR := hR2.trans hR
  refine go_istore dX12_oneOf_11 (Nat.le_of_ble_eq_true rfl) ?_
  show gg p l e s m args below meth c G (d + 1) MX12_oneOf Q 13 [some (.ref 82), some (.int a1), some (.long v1), none, some (.int v2)] [] h2
  refine go_aload_n (x := 82) dX12_oneOf_13 rfl ?_
  refine go_getI' (v := (h2.1 82 5)) dX12_oneOf_14 f12_278 sh82 (fun _ _ => rfl) rfl ?_
  refine go_if_ne 35 dX12_oneOf_17 rfl (fun q => ?_) (fun q => ?_)
  · replace vc := vc.1 q
    refine go_aload_n (x := 82) dX12_oneOf_35 rfl ?_
    refine go_getI' (v := (h2.1 82 5)) dX12_oneOf_36 f12_278 sh82 (fun _ _ => rfl) rfl ?_
    refine go_if_ne 47 dX12_oneOf_39 rfl (fun q => ?_) (fun q => ?_)
    · replace vc := vc.1 q
      refine go_iconst (v := 0) dX12_oneOf_47 rfl ?_
      exact go_iret dX12_oneOf_48 rfl vc rfl (Nat.le_refl _) (Nat.le_refl _)
    · replace vc := vc.2 q
      refine go_iload (x := v2) dX12_oneOf_42 rfl ?_
      refine go_goto 48 dX12_oneOf_44 rfl ?_
      exact go_iret dX12_oneOf_48 rfl vc rfl (Nat.le_refl _) (Nat.le_refl _)
  · replace vc := vc.2 q
    refine go_iload (x := v2) dX12_oneOf_20 rfl ?_
    refine go_iconst (v := (-1)) dX12_oneOf_22 rfl ?_
    refine go_icmp_ne 35 dX12_oneOf_23 rfl (fun q => ?_) (fun q => ?_)
    · replace vc := vc.1 q
      refine go_aload_n (x := 82) dX12_oneOf_35 rfl ?_
      refine go_getI' (v := (h2.1 82 5)) dX12_oneOf_36 f12_278 sh82 (fun _ _ => rfl) rfl ?_
      refine go_if_ne 47 dX12_oneOf_39 rfl (fun q => ?_) (fun q => ?_)
      · replace vc := vc.1 q
        refine go_iconst (v := 0) dX12_oneOf_47 rfl ?_
        exact go_iret dX12_oneOf_48 rfl vc rfl (Nat.le_refl _) (Nat.le_refl _)
      · replace vc := vc.2 q
        refine go_iload (x := v2) dX12_oneOf_42 rfl ?_
        refine go_goto 48 dX12_oneOf_44 rfl ?_
        exact go_iret dX12_oneOf_48 rfl vc rfl (Nat.le_refl _) (Nat.le_refl _)
    · replace vc := vc.2 q
      refine go_aload_n (x := 82) dX12_oneOf_26 rfl ?_
      refine go_iconst (v := 3) dX12_oneOf_27 rfl ?_
      refine go_aload_n (x := 82) dX12_oneOf_28 rfl ?_
      refine go_getI' (v := (h2.1 82 45)) dX12_oneOf_29 f12_329 sh82 (fun _ _ => rfl) rfl ?_
      refine gvV2 MX12_fail dX12_oneOf_32 lX12_308 kX12_fail vX12_fail sh82 (by decide) rfl (Nat.le_of_ble_eq_true rfl) vc ?_
      intro h3 vc
      obtain ⟨hR3, vc⟩ := vc
      replace hR := hR3.trans hR
      refine go_aload_n (x := 82) dX12_oneOf_35 rfl ?_
      refine go_getI' (v := (h3.1 82 5)) dX12_oneOf_36 f12_278 sh82 (fun _ _ => rfl) rfl ?_
      refine go_if_ne 47 dX12_oneOf_39 rfl (fun q => ?_) (fun q => ?_)
      · replace vc := vc.1 q
        refine go_iconst (v := 0) dX12_oneOf_47 rfl ?_
        exact go_iret dX12_oneOf_48 rfl vc rfl (Nat.le_refl _) (Nat.le_refl _)
      · replace vc := vc.2 q
        refine go_iload (x := v2) dX12_oneOf_42 rfl ?_
        refine go_goto 48 dX12_oneOf_44 rfl ?_
        exact go_iret dX12_oneOf_48 rfl vc rfl (Nat.le_refl _) (Nat.le_refl _)
set_option maxRecDepth 20000 in
theorem wX12_lakeTold_0 {p : Program} {l : Launch} {e : Env} {s : State} {m : MethodId} {args : Array Value} {below : List Frame} {meth : Method} {c : Code} {G : gG} {d : Nat} {Q : Option Value → gH → Prop} {h : gH} {lk sp : Nat} {cd : Option Nat}  (hR : h.2.2 = gRF lk sp cd) (hlk : lk = 30 ∨ lk = 67) (hsp : sp = 30 ∨ sp = 67)  (vc : gC l G d MX12_asks [.ref 82, .ref 85] h (rV fun h1 => h1.2.2 = (h).2.2 ∧ gC l G d MX12_number [.ref 82, .int 3, .int 8] h1 (rI fun v2 h2 => h2.2.2 = (h1).2.2 ∧ gC l G d MX12_asksSign [.ref 82, .int 59] (sI h2 119 0 v2) (rV fun h3 => h3.2.2 = ((sI h2 119 0 v2)).2.2 ∧ Q none h3)))) : gg p l e s m args below meth c G (d + 1) MX12_lakeTold Q 0 [some (.ref 82)] [] h := by
  refine go_aload_n (x := 82) dX12_lakeTold_0 rfl ?_
  refine go_aload_n (x := 82) dX12_lakeTold_1 rfl ?_
  refine go_getR (x := 85) dX12_lakeTold_2 f12_20 sh82 (fun _ _ => rfl) (rf82_11 hR) ?_
  refine gvV1 MX12_asks dX12_lakeTold_5 lX12_344 kX12_asks vX12_asks sh82 (by decide) rfl (Nat.le_of_ble_eq_true rfl) vc ?_
  intro h1 vc
  obtain ⟨hR1, vc⟩ := vc
  replace hR := hR1.trans hR
  refine go_aload_n (x := 82) dX12_lakeTold_8 rfl ?_
  refine go_getR (x := 119) dX12_lakeTold_9 f12_123 sh82 (fun _ _ => rfl) (rf82_46 hR) ?_
  refine go_iconst (v := 0) dX12_lakeTold_12 rfl ?_
  refine go_aload_n (x := 82) dX12_lakeTold_13 rfl ?_
  refine go_iconst (v := 3) dX12_lakeTold_14 rfl ?_
  refine go_bipush (v := 8) dX12_lakeTold_15 rfl ?_
  refine gvI2 MX12_number dX12_lakeTold_17 lX12_348 kX12_number vX12_number sh82 (by decide) rfl (Nat.le_of_ble_eq_true rfl) vc ?_
  intro v2 h2 vc
  obtain ⟨hR2, vc⟩ := vc
  replace hR := hR2.trans hR
  refine go_iast dX12_lakeTold_20 sh119 (by unfold vp_in; decide) ?_
  refine go_aload_n (x := 82) dX12_lakeTold_21 rfl ?_
  refine go_bipush (v := 59) dX12_lakeTold_22 rfl ?_
  refine gvV1 MX12_asksSign dX12_lakeTold_24 lX12_352 kX12_asksSign vX12_asksSign sh82 (by decide) rfl (Nat.le_of_ble_eq_true rfl) vc ?_
  intro h3 vc
  obtain ⟨hR3, vc⟩ := vc
  replace hR := hR3.trans hR
  exact go_vret dX12_lakeTold_27 rfl vc rfl (Nat.le_refl _) (Nat.le_refl _)
set_option maxRecDepth 20000 in
theorem wX12_kindOf_0 {p : Program} {l : Launch} {e : Env} {s : State} {m : MethodId} {args : Array Value} {below : List Frame} {meth : Method} {c : Code} {G : gG} {d : Nat} {Q : Option Value → gH → Prop} {h : gH} {lk sp : Nat} {cd : Option Nat} {a1 : Int32} (hR : h.2.2 = gRF lk sp cd) (hlk : lk = 30 ∨ lk = 67) (hsp : sp = 30 ∨ sp = 67)  (vc : ((a1 = 100 → Q (some (.int 2)) h) ∧ (a1 = 104 → Q (some (.int 0)) h) ∧ (a1 = 108 → Q (some (.int 9)) h) ∧ (a1 = 115 → Q (some (.int 1)) h) ∧ (a1 = 119 → Q (some (.int 3)) h) ∧ (¬ a1 = 100 → ¬ a1 = 104 → ¬ a1 = 108 → ¬ a1 = 115 → ¬ a1 = 119 → Q (some (.int (-1))) h))) : gg p l e s m args below meth c G d MX12_kindOf Q 0 [some (.int a1)] [] h := by
  refine go_iload_n (x := a1) dX12_kindOf_0 rfl ?_
  by_cases q0 : a1 = 100
  · refine go_lookup (off := 55) 56 dX12_kindOf_1 (by decide) (by rw [q0]; rfl) rfl ?_
    replace vc := vc.1 q0
    refine go_iconst (v := 2) dX12_kindOf_56 rfl ?_
    exact go_iret dX12_kindOf_57 rfl vc rfl (Nat.le_refl _) (Nat.le_refl _)
  by_cases q1 : a1 = 104
  · refine go_lookup (off := 51) 52 dX12_kindOf_1 (by decide) (by rw [q1]; rfl) rfl ?_
    replace vc := vc.2.1 q1
    refine go_iconst (v := 0) dX12_kindOf_52 rfl ?_
    exact go_iret dX12_kindOf_53 rfl vc rfl (Nat.le_refl _) (Nat.le_refl _)
  by_cases q2 : a1 = 108
  · refine go_lookup (off := 59) 60 dX12_kindOf_1 (by decide) (by rw [q2]; rfl) rfl ?_
    replace vc := vc.2.2.1 q2
    refine go_bipush (v := 9) dX12_kindOf_60 rfl ?_
    exact go_iret dX12_kindOf_62 rfl vc rfl (Nat.le_refl _) (Nat.le_refl _)
  by_cases q3 : a1 = 115
  · refine go_lookup (off := 53) 54 dX12_kindOf_1 (by decide) (by rw [q3]; rfl) rfl ?_
    replace vc := vc.2.2.2.1 q3
    refine go_iconst (v := 1) dX12_kindOf_54 rfl ?_
    exact go_iret dX12_kindOf_55 rfl vc rfl (Nat.le_refl _) (Nat.le_refl _)
  by_cases q4 : a1 = 119
  · refine go_lookup (off := 57) 58 dX12_kindOf_1 (by decide) (by rw [q4]; rfl) rfl ?_
    replace vc := vc.2.2.2.2.1 q4
    refine go_iconst (v := 3) dX12_kindOf_58 rfl ?_
    exact go_iret dX12_kindOf_59 rfl vc rfl (Nat.le_refl _) (Nat.le_refl _)
  replace vc := vc.2.2.2.2.2 q0 q1 q2 q3 q4
  refine go_lookup 63 dX12_kindOf_1 (by decide) ((lv_osw q0 rfl).trans ((lv_osw q1 rfl).trans ((lv_osw q2 rfl).trans ((lv_osw q3 rfl).trans ((lv_osw q4 rfl).trans rfl))))) rfl ?_
  refine go_iconst (v := (-1)) dX12_kindOf_63 rfl ?_
  exact go_iret dX12_kindOf_64 rfl vc rfl (Nat.le_refl _) (Nat.le_refl _)
set_option maxRecDepth 20000 in
theorem wX12_rowTold_0 {p : Program} {l : Launch} {e : Env} {s : State} {m : MethodId} {args : Array Value} {below : List Frame} {meth : Method} {c : Code} {G : gG} {d : Nat} {Q : Option Value → gH → Prop} {h : gH} {lk sp : Nat} {cd : Option Nat} {a1 : Int32} (hR : h.2.2 = gRF lk sp cd) (hlk : lk = 30 ∨ lk = 67) (hsp : sp = 30 ∨ sp = 67)  (vc : gC l G d MX12_isFull [.ref 82, .int 1, .int 6, .int a1] h (rI fun v1 h1 => h1.2.2 = (h).2.2 ∧ ((v1 = 0 → gC l G d MX12_look [.ref 82] h1 (rI fun v2 h2 => h2.2.2 = (h1).2.2 ∧ ((¬ v2 = (-1) → (((h2.1 82 2) = (h2.1 82 4) → gg p l e s m args below meth c G (d + 1) MX12_rowTold Q 52 [some (.ref 82), some (.int a1), some (.int (h2.1 82 2)), some (.int 0), some (.int 0)] [] h2) ∧ (¬ (h2.1 82 2) = (h2.1 82 4) → gg p l e s m args below meth c G (d + 1) MX12_rowTold Q 52 [some (.ref 82), some (.int a1), some (.int (h2.1 82 2)), some (.int 0), some (.int 1)] [] h2))) ∧ (v2 = (-1) → (((h2.1 82 2) = (h2.1 82 4) → gg p l e s m args below meth c G (d + 1) MX12_rowTold Q 52 [some (.ref 82), some (.int a1), some (.int (h2.1 82 3)), some (.int 0), some (.int 0)] [] h2) ∧ (¬ (h2.1 82 2) = (h2.1 82 4) → gg p l e s m args below meth c G (d + 1) MX12_rowTold Q 52 [some (.ref 82), some (.int a1), some (.int (h2.1 82 3)), some (.int 0), some (.int 1)] [] h2)))))) ∧ (¬ v1 = 0 → Q none h1)))) : gg p l e s m args below meth c G (d + 1) MX12_rowTold Q 0 [some (.ref 82), some (.int a1), none, none, none] [] h := by
  refine go_aload_n (x := 82) dX12_rowTold_0 rfl ?_
  refine go_iconst (v := 1) dX12_rowTold_1 rfl ?_
  refine go_bipush (v := 6) dX12_rowTold_2 rfl ?_
  refine go_iload_n (x := a1) dX12_rowTold_4 rfl ?_
  refine gvI3 MX12_isFull dX12_rowTold_5 lX12_356 kX12_isFull vX12_isFull sh82 (by decide) rfl (Nat.le_of_ble_eq_true rfl) vc ?_
  intro v1 h1 vc
  obtain ⟨hR1, vc⟩ := vc
  replace hR := hR1.trans hR
  refine go_if_eq 12 dX12_rowTold_8 rfl (fun q => ?_) (fun q => ?_)
  · replace vc := vc.1 q
    refine go_aload_n (x := 82) dX12_rowTold_12 rfl ?_
    refine gvI0 MX12_look dX12_rowTold_13 lX12_290 kX12_look vX12_look sh82 (by decide) rfl (Nat.le_of_ble_eq_true rfl) vc ?_
    intro v2 h2 vc
    obtain ⟨hR2, vc⟩ := vc
    replace hR := hR2.trans hR
    refine go_iconst (v := (-1)) dX12_rowTold_16 rfl ?_
    refine go_icmp_ne 27 dX12_rowTold_17 rfl (fun q => ?_) (fun q => ?_)
    · replace vc := vc.1 q
      refine go_aload_n (x := 82) dX12_rowTold_27 rfl ?_
      refine go_getI' (v := (h2.1 82 2)) dX12_rowTold_28 f12_284 sh82 (fun _ _ => rfl) rfl ?_
      refine go_istore_n dX12_rowTold_31 (Nat.le_of_ble_eq_true rfl) ?_
      show gg p l e s m args below meth c G (d + 1) MX12_rowTold Q 32 [some (.ref 82), some (.int a1), some (.int (h2.1 82 2)), none, none] [] h2
      refine go_iconst (v := 0) dX12_rowTold_32 rfl ?_
      refine go_istore_n dX12_rowTold_33 (Nat.le_of_ble_eq_true rfl) ?_
      show gg p l e s m args below meth c G (d + 1) MX12_rowTold Q 34 [some (.ref 82), some (.int a1), some (.int (h2.1 82 2)), some (.int 0), none] [] h2
      refine go_aload_n (x := 82) dX12_rowTold_34 rfl ?_
      refine go_getI' (v := (h2.1 82 2)) dX12_rowTold_35 f12_284 sh82 (fun _ _ => rfl) rfl ?_
      refine go_aload_n (x := 82) dX12_rowTold_38 rfl ?_
      refine go_getI' (v := (h2.1 82 4)) dX12_rowTold_39 f12_298 sh82 (fun _ _ => rfl) rfl ?_
      refine go_icmp_eq 49 dX12_rowTold_42 rfl (fun q => ?_) (fun q => ?_)
      · replace vc := vc.1 q
        refine go_iconst (v := 0) dX12_rowTold_49 rfl ?_
        refine go_istore dX12_rowTold_50 (Nat.le_of_ble_eq_true rfl) ?_
        show gg p l e s m args below meth c G (d + 1) MX12_rowTold Q 52 [some (.ref 82), some (.int a1), some (.int (h2.1 82 2)), some (.int 0), some (.int 0)] [] h2
        exact vc
      · replace vc := vc.2 q
        refine go_iconst (v := 1) dX12_rowTold_45 rfl ?_
        refine go_goto 50 dX12_rowTold_46 rfl ?_
        refine go_istore dX12_rowTold_50 (Nat.le_of_ble_eq_true rfl) ?_
        show gg p l e s m args below meth c G (d + 1) MX12_rowTold Q 52 [some (.ref 82), some (.int a1), some (.int (h2.1 82 2)), some (.int 0), some (.int 1)] [] h2
        exact vc
    · replace vc := vc.2 q
      refine go_aload_n (x := 82) dX12_rowTold_20 rfl ?_
      refine go_getI' (v := (h2.1 82 3)) dX12_rowTold_21 f12_287 sh82 (fun _ _ => rfl) rfl ?_
      refine go_goto 31 dX12_rowTold_24 rfl ?_
      refine go_istore_n dX12_rowTold_31 (Nat.le_of_ble_eq_true rfl) ?_
      show gg p l e s m args below meth c G (d + 1) MX12_rowTold Q 32 [some (.ref 82), some (.int a1), some (.int (h2.1 82 3)), none, none] [] h2
      refine go_iconst (v := 0) dX12_rowTold_32 rfl ?_
      refine go_istore_n dX12_rowTold_33 (Nat.le_of_ble_eq_true rfl) ?_
      show gg p l e s m args below meth c G (d + 1) MX12_rowTold Q 34 [some (.ref 82), some (.int a1), some (.int (h2.1 82 3)), some (.int 0), none] [] h2
      refine go_aload_n (x := 82) dX12_rowTold_34 rfl ?_
      refine go_getI' (v := (h2.1 82 2)) dX12_rowTold_35 f12_284 sh82 (fun _ _ => rfl) rfl ?_
      refine go_aload_n (x := 82) dX12_rowTold_38 rfl ?_
      refine go_getI' (v := (h2.1 82 4)) dX12_rowTold_39 f12_298 sh82 (fun _ _ => rfl) rfl ?_
      refine go_icmp_eq 49 dX12_rowTold_42 rfl (fun q => ?_) (fun q => ?_)
      · replace vc := vc.1 q
        refine go_iconst (v := 0) dX12_rowTold_49 rfl ?_
        refine go_istore dX12_rowTold_50 (Nat.le_of_ble_eq_true rfl) ?_
        show gg p l e s m args below meth c G (d + 1) MX12_rowTold Q 52 [some (.ref 82), some (.int a1), some (.int (h2.1 82 3)), some (.int 0), some (.int 0)] [] h2
        exact vc
      · replace vc := vc.2 q
        refine go_iconst (v := 1) dX12_rowTold_45 rfl ?_
        refine go_goto 50 dX12_rowTold_46 rfl ?_
        refine go_istore dX12_rowTold_50 (Nat.le_of_ble_eq_true rfl) ?_
        show gg p l e s m args below meth c G (d + 1) MX12_rowTold Q 52 [some (.ref 82), some (.int a1), some (.int (h2.1 82 3)), some (.int 0), some (.int 1)] [] h2
        exact vc
  · replace vc := vc.2 q
    exact go_vret dX12_rowTold_11 rfl vc rfl (Nat.le_refl _) (Nat.le_refl _)
set_option maxRecDepth 20000 in
theorem wX12_rowTold_52 {p : Program} {l : Launch} {e : Env} {s : State} {m : MethodId} {args : Array Value} {below : List Frame} {meth : Method} {c : Code} {G : gG} {d : Nat} {Q : Option Value → gH → Prop} {h : gH} {lk sp : Nat} {cd : Option Nat} {x1 : Int32} {x2 : Int32} {x3 : Int32} {x4 : Int32} (hR : h.2.2 = gRF lk sp cd) (hlk : lk = 30 ∨ lk = 67) (hsp : sp = 30 ∨ sp = 67)  (vc : (((h.1 82 3) ≤ (h.1 82 2) → ((x4 = 0 → gC l G d MX12_fail [.ref 82, .int 1, .int x2] h (rV fun h1 => h1.2.2 = (h).2.2 ∧ Q none h1)) ∧ (¬ x4 = 0 → ((x3 = (h.1 119 0) → Q none (sI (sI h 82 4 (h.1 82 2)) 119 1 ((h.1 119 1) + 1))) ∧ (¬ x3 = (h.1 119 0) → gC l G d MX12_fail [.ref 82, .int 1, .int x2] h (rV fun h2 => h2.2.2 = (h).2.2 ∧ Q none h2)))))) ∧ (¬ (h.1 82 3) ≤ (h.1 82 2) → (vp_in ((h.1 82 2)) 1600 ∧ gC l G d MX12_isLetter [.int (h.1 83 ((h.1 82 2) : Int32).toNatClampNeg)] h (rI fun v3 h3 => h3.2.2 = (h).2.2 ∧ ((v3 = 0 → ((x4 = 0 → gC l G d MX12_fail [.ref 82, .int 1, .int x2] h3 (rV fun h4 => h4.2.2 = (h3).2.2 ∧ Q none h4)) ∧ (¬ x4 = 0 → ((x3 = (h3.1 119 0) → Q none (sI (sI h3 82 4 (h3.1 82 2)) 119 1 ((h3.1 119 1) + 1))) ∧ (¬ x3 = (h3.1 119 0) → gC l G d MX12_fail [.ref 82, .int 1, .int x2] h3 (rV fun h5 => h5.2.2 = (h3).2.2 ∧ Q none h5)))))) ∧ (¬ v3 = 0 → ((x4 = 0 → gg p l e s m args below meth c G (d + 1) MX12_rowTold Q 52 [some (.ref 82), some (.int x1), some (.int x2), some (.int (x3 + 1)), some (.int 0)] [] (sI h3 82 2 ((h3.1 82 2) + 1))) ∧ (¬ x4 = 0 → (((h3.1 119 0) ≤ x3 → gg p l e s m args below meth c G (d + 1) MX12_rowTold Q 52 [some (.ref 82), some (.int x1), some (.int x2), some (.int (x3 + 1)), some (.int 0)] [] (sI h3 82 2 ((h3.1 82 2) + 1))) ∧ (¬ (h3.1 119 0) ≤ x3 → (vp_in ((h3.1 82 2)) 1600 ∧ gC l G d MX12_kindOf [.int (h3.1 83 ((h3.1 82 2) : Int32).toNatClampNeg)] h3 (rI fun v6 h6 => h6.2.2 = (h3).2.2 ∧ ((v6 = (-1) → gg p l e s m args below meth c G (d + 1) MX12_rowTold Q 52 [some (.ref 82), some (.int x1), some (.int x2), some (.int (x3 + 1)), some (.int 0)] [] (sI h6 82 2 ((h6.1 82 2) + 1))) ∧ (¬ v6 = (-1) → (vp_in ((h6.1 82 2)) 1600 ∧ gC l G d MX12_kindOf [.int (h6.1 83 ((h6.1 82 2) : Int32).toNatClampNeg)] h6 (rI fun v7 h7 => h7.2.2 = (h6).2.2 ∧ (vp_in (((8 * (h6.1 119 1)) + x3)) 96 ∧ gg p l e s m args below meth c G (d + 1) MX12_rowTold Q 52 [some (.ref 82), some (.int x1), some (.int x2), some (.int (x3 + 1)), some (.int 1)] [] (sI (sI h7 121 (((8 * (h6.1 119 1)) + x3) : Int32).toNatClampNeg v7) 82 2 ((h7.1 82 2) + 1)))))))))))))))))))) : gg p l e s m args below meth c G (d + 1) MX12_rowTold Q 52 [some (.ref 82), some (.int x1), some (.int x2), some (.int x3), some (.int x4)] [] h := by
  refine go_aload_n (x := 82) dX12_rowTold_52 rfl ?_
  refine go_getI' (v := (h.1 82 2)) dX12_rowTold_53 f12_284 sh82 (fun _ _ => rfl) rfl ?_
  refine go_aload_n (x := 82) dX12_rowTold_56 rfl ?_
  refine go_getI' (v := (h.1 82 3)) dX12_rowTold_57 f12_287 sh82 (fun _ _ => rfl) rfl ?_
  refine go_icmp_ge 165 dX12_rowTold_60 rfl (fun q => ?_) (fun q => ?_)
  · replace vc := vc.1 q
    refine go_iload (x := x4) dX12_rowTold_165 rfl ?_
    refine go_if_eq 180 dX12_rowTold_167 rfl (fun q => ?_) (fun q => ?_)
    · replace vc := vc.1 q
      refine go_aload_n (x := 82) dX12_rowTold_180 rfl ?_
      refine go_iconst (v := 1) dX12_rowTold_181 rfl ?_
      refine go_iload_n (x := x2) dX12_rowTold_182 rfl ?_
      refine gvV2 MX12_fail dX12_rowTold_183 lX12_308 kX12_fail vX12_fail sh82 (by decide) rfl (Nat.le_of_ble_eq_true rfl) vc ?_
      intro h1 vc
      obtain ⟨hR1, vc⟩ := vc
      replace hR := hR1.trans hR
      exact go_vret dX12_rowTold_186 rfl vc rfl (Nat.le_refl _) (Nat.le_refl _)
    · replace vc := vc.2 q
      refine go_iload_n (x := x3) dX12_rowTold_170 rfl ?_
      refine go_aload_n (x := 82) dX12_rowTold_171 rfl ?_
      refine go_getR (x := 119) dX12_rowTold_172 f12_123 sh82 (fun _ _ => rfl) (rf82_46 hR) ?_
      refine go_iconst (v := 0) dX12_rowTold_175 rfl ?_
      refine go_iald' (v := (h.1 119 0)) dX12_rowTold_176 sh119 (by unfold vp_in; decide) rfl ?_
      refine go_icmp_eq 187 dX12_rowTold_177 rfl (fun q => ?_) (fun q => ?_)
      · replace vc := vc.1 q
        refine go_aload_n (x := 82) dX12_rowTold_187 rfl ?_
        refine go_aload_n (x := 82) dX12_rowTold_188 rfl ?_
        refine go_getI' (v := (h.1 82 2)) dX12_rowTold_189 f12_284 sh82 (fun _ _ => rfl) rfl ?_
        refine go_putI dX12_rowTold_192 f12_298 sh82 rfl rfl ?_
        refine go_aload_n (x := 82) dX12_rowTold_195 rfl ?_
        refine go_getR (x := 119) dX12_rowTold_196 f12_123 sh82 (fun _ _ => rfl) (rf82_46 hR) ?_
        refine go_iconst (v := 1) dX12_rowTold_199 rfl ?_
        refine go_dup2 dX12_rowTold_200 rfl rfl ?_
        refine go_iald' (v := (h.1 119 1)) dX12_rowTold_201 sh119 (by unfold vp_in; decide) rfl ?_
        refine go_iconst (v := 1) dX12_rowTold_202 rfl ?_
        refine go_iadd dX12_rowTold_203 ?_
        refine go_iast dX12_rowTold_204 sh119 (by unfold vp_in; decide) ?_
        exact go_vret dX12_rowTold_205 rfl vc rfl (Nat.le_refl _) (Nat.le_refl _)
      · replace vc := vc.2 q
        refine go_aload_n (x := 82) dX12_rowTold_180 rfl ?_
        refine go_iconst (v := 1) dX12_rowTold_181 rfl ?_
        refine go_iload_n (x := x2) dX12_rowTold_182 rfl ?_
        refine gvV2 MX12_fail dX12_rowTold_183 lX12_308 kX12_fail vX12_fail sh82 (by decide) rfl (Nat.le_of_ble_eq_true rfl) vc ?_
        intro h2 vc
        obtain ⟨hR2, vc⟩ := vc
        replace hR := hR2.trans hR
        exact go_vret dX12_rowTold_186 rfl vc rfl (Nat.le_refl _) (Nat.le_refl _)
  · replace vc := vc.2 q
    refine go_aload_n (x := 82) dX12_rowTold_63 rfl ?_
    refine go_getR (x := 83) dX12_rowTold_64 f12_7 sh82 (fun _ _ => rfl) (rf82_0 hR) ?_
    refine go_aload_n (x := 82) dX12_rowTold_67 rfl ?_
    refine go_getI' (v := (h.1 82 2)) dX12_rowTold_68 f12_284 sh82 (fun _ _ => rfl) rfl ?_
    refine go_iald' (v := (h.1 83 ((h.1 82 2) : Int32).toNatClampNeg)) dX12_rowTold_71 sh83 vc.1 rfl ?_
    have vc := vc.2
    refine gsI1 MX12_isLetter dX12_rowTold_72 lX12_294 kX12_isLetter sX12_isLetter (Nat.le_of_ble_eq_true rfl) vc ?_
    intro v3 h3 vc
    obtain ⟨hR3, vc⟩ := vc
    replace hR := hR3.trans hR
    refine go_if_eq 165 dX12_rowTold_75 rfl (fun q => ?_) (fun q => ?_)
    · replace vc := vc.1 q
      refine go_iload (x := x4) dX12_rowTold_165 rfl ?_
      refine go_if_eq 180 dX12_rowTold_167 rfl (fun q => ?_) (fun q => ?_)
      · replace vc := vc.1 q
        refine go_aload_n (x := 82) dX12_rowTold_180 rfl ?_
        refine go_iconst (v := 1) dX12_rowTold_181 rfl ?_
        refine go_iload_n (x := x2) dX12_rowTold_182 rfl ?_
        refine gvV2 MX12_fail dX12_rowTold_183 lX12_308 kX12_fail vX12_fail sh82 (by decide) rfl (Nat.le_of_ble_eq_true rfl) vc ?_
        intro h4 vc
        obtain ⟨hR4, vc⟩ := vc
        replace hR := hR4.trans hR
        exact go_vret dX12_rowTold_186 rfl vc rfl (Nat.le_refl _) (Nat.le_refl _)
      · replace vc := vc.2 q
        refine go_iload_n (x := x3) dX12_rowTold_170 rfl ?_
        refine go_aload_n (x := 82) dX12_rowTold_171 rfl ?_
        refine go_getR (x := 119) dX12_rowTold_172 f12_123 sh82 (fun _ _ => rfl) (rf82_46 hR) ?_
        refine go_iconst (v := 0) dX12_rowTold_175 rfl ?_
        refine go_iald' (v := (h3.1 119 0)) dX12_rowTold_176 sh119 (by unfold vp_in; decide) rfl ?_
        refine go_icmp_eq 187 dX12_rowTold_177 rfl (fun q => ?_) (fun q => ?_)
        · replace vc := vc.1 q
          refine go_aload_n (x := 82) dX12_rowTold_187 rfl ?_
          refine go_aload_n (x := 82) dX12_rowTold_188 rfl ?_
          refine go_getI' (v := (h3.1 82 2)) dX12_rowTold_189 f12_284 sh82 (fun _ _ => rfl) rfl ?_
          refine go_putI dX12_rowTold_192 f12_298 sh82 rfl rfl ?_
          refine go_aload_n (x := 82) dX12_rowTold_195 rfl ?_
          refine go_getR (x := 119) dX12_rowTold_196 f12_123 sh82 (fun _ _ => rfl) (rf82_46 hR) ?_
          refine go_iconst (v := 1) dX12_rowTold_199 rfl ?_
          refine go_dup2 dX12_rowTold_200 rfl rfl ?_
          refine go_iald' (v := (h3.1 119 1)) dX12_rowTold_201 sh119 (by unfold vp_in; decide) rfl ?_
          refine go_iconst (v := 1) dX12_rowTold_202 rfl ?_
          refine go_iadd dX12_rowTold_203 ?_
          refine go_iast dX12_rowTold_204 sh119 (by unfold vp_in; decide) ?_
          exact go_vret dX12_rowTold_205 rfl vc rfl (Nat.le_refl _) (Nat.le_refl _)
        · replace vc := vc.2 q
          refine go_aload_n (x := 82) dX12_rowTold_180 rfl ?_
          refine go_iconst (v := 1) dX12_rowTold_181 rfl ?_
          refine go_iload_n (x := x2) dX12_rowTold_182 rfl ?_
          refine gvV2 MX12_fail dX12_rowTold_183 lX12_308 kX12_fail vX12_fail sh82 (by decide) rfl (Nat.le_of_ble_eq_true rfl) vc ?_
          intro h5 vc
          obtain ⟨hR5, vc⟩ := vc
          replace hR := hR5.trans hR
          exact go_vret dX12_rowTold_186 rfl vc rfl (Nat.le_refl _) (Nat.le_refl _)
    · replace vc := vc.2 q
      refine go_iload (x := x4) dX12_rowTold_78 rfl ?_
      refine go_if_eq 113 dX12_rowTold_80 rfl (fun q => ?_) (fun q => ?_)
      · replace vc := vc.1 q
        refine go_iconst (v := 0) dX12_rowTold_113 rfl ?_
        refine go_istore dX12_rowTold_114 (Nat.le_of_ble_eq_true rfl) ?_
        show gg p l e s m args below meth c G (d + 1) MX12_rowTold Q 116 [some (.ref 82), some (.int x1), some (.int x2), some (.int x3), some (.int 0)] [] h3
        refine go_iload (x := 0) dX12_rowTold_116 rfl ?_
        refine go_if_eq 149 dX12_rowTold_118 rfl (fun q => ?_) (fun q => absurd q (by decide))
        refine go_iinc (x := x3) dX12_rowTold_149 rfl ?_
        show gg p l e s m args below meth c G (d + 1) MX12_rowTold Q 152 [some (.ref 82), some (.int x1), some (.int x2), some (.int (x3 + 1)), some (.int 0)] [] h3
        refine go_aload_n (x := 82) dX12_rowTold_152 rfl ?_
        refine go_dup dX12_rowTold_153 rfl ?_
        refine go_getI' (v := (h3.1 82 2)) dX12_rowTold_154 f12_284 sh82 (fun _ _ => rfl) rfl ?_
        refine go_iconst (v := 1) dX12_rowTold_157 rfl ?_
        refine go_iadd dX12_rowTold_158 ?_
        refine go_putI dX12_rowTold_159 f12_284 sh82 rfl rfl ?_
        refine go_goto 52 dX12_rowTold_162 rfl ?_
        exact vc
      · replace vc := vc.2 q
        refine go_iload_n (x := x3) dX12_rowTold_83 rfl ?_
        refine go_aload_n (x := 82) dX12_rowTold_84 rfl ?_
        refine go_getR (x := 119) dX12_rowTold_85 f12_123 sh82 (fun _ _ => rfl) (rf82_46 hR) ?_
        refine go_iconst (v := 0) dX12_rowTold_88 rfl ?_
        refine go_iald' (v := (h3.1 119 0)) dX12_rowTold_89 sh119 (by unfold vp_in; decide) rfl ?_
        refine go_icmp_ge 113 dX12_rowTold_90 rfl (fun q => ?_) (fun q => ?_)
        · replace vc := vc.1 q
          refine go_iconst (v := 0) dX12_rowTold_113 rfl ?_
          refine go_istore dX12_rowTold_114 (Nat.le_of_ble_eq_true rfl) ?_
          show gg p l e s m args below meth c G (d + 1) MX12_rowTold Q 116 [some (.ref 82), some (.int x1), some (.int x2), some (.int x3), some (.int 0)] [] h3
          refine go_iload (x := 0) dX12_rowTold_116 rfl ?_
          refine go_if_eq 149 dX12_rowTold_118 rfl (fun q => ?_) (fun q => absurd q (by decide))
          refine go_iinc (x := x3) dX12_rowTold_149 rfl ?_
          show gg p l e s m args below meth c G (d + 1) MX12_rowTold Q 152 [some (.ref 82), some (.int x1), some (.int x2), some (.int (x3 + 1)), some (.int 0)] [] h3
          refine go_aload_n (x := 82) dX12_rowTold_152 rfl ?_
          refine go_dup dX12_rowTold_153 rfl ?_
          refine go_getI' (v := (h3.1 82 2)) dX12_rowTold_154 f12_284 sh82 (fun _ _ => rfl) rfl ?_
          refine go_iconst (v := 1) dX12_rowTold_157 rfl ?_
          refine go_iadd dX12_rowTold_158 ?_
          refine go_putI dX12_rowTold_159 f12_284 sh82 rfl rfl ?_
          refine go_goto 52 dX12_rowTold_162 rfl ?_
          exact vc
        · replace vc := vc.2 q
          refine go_aload_n (x := 82) dX12_rowTold_93 rfl ?_
          refine go_getR (x := 83) dX12_rowTold_94 f12_7 sh82 (fun _ _ => rfl) (rf82_0 hR) ?_
          refine go_aload_n (x := 82) dX12_rowTold_97 rfl ?_
          refine go_getI' (v := (h3.1 82 2)) dX12_rowTold_98 f12_284 sh82 (fun _ _ => rfl) rfl ?_
          refine go_iald' (v := (h3.1 83 ((h3.1 82 2) : Int32).toNatClampNeg)) dX12_rowTold_101 sh83 vc.1 rfl ?_
          have vc := vc.2
          refine gsI1 MX12_kindOf dX12_rowTold_102 lX12_360 kX12_kindOf sX12_kindOf (Nat.le_of_ble_eq_true rfl) vc ?_
          intro v6 h6 vc
          obtain ⟨hR6, vc⟩ := vc
          replace hR := hR6.trans hR
          refine go_iconst (v := (-1)) dX12_rowTold_105 rfl ?_
          refine go_icmp_eq 113 dX12_rowTold_106 rfl (fun q => ?_) (fun q => ?_)
          · replace vc := vc.1 q
            refine go_iconst (v := 0) dX12_rowTold_113 rfl ?_
            refine go_istore dX12_rowTold_114 (Nat.le_of_ble_eq_true rfl) ?_
            show gg p l e s m args below meth c G (d + 1) MX12_rowTold Q 116 [some (.ref 82), some (.int x1), some (.int x2), some (.int x3), some (.int 0)] [] h6
            refine go_iload (x := 0) dX12_rowTold_116 rfl ?_
            refine go_if_eq 149 dX12_rowTold_118 rfl (fun q => ?_) (fun q => absurd q (by decide))
            refine go_iinc (x := x3) dX12_rowTold_149 rfl ?_
            show gg p l e s m args below meth c G (d + 1) MX12_rowTold Q 152 [some (.ref 82), some (.int x1), some (.int x2), some (.int (x3 + 1)), some (.int 0)] [] h6
            refine go_aload_n (x := 82) dX12_rowTold_152 rfl ?_
            refine go_dup dX12_rowTold_153 rfl ?_
            refine go_getI' (v := (h6.1 82 2)) dX12_rowTold_154 f12_284 sh82 (fun _ _ => rfl) rfl ?_
            refine go_iconst (v := 1) dX12_rowTold_157 rfl ?_
            refine go_iadd dX12_rowTold_158 ?_
            refine go_putI dX12_rowTold_159 f12_284 sh82 rfl rfl ?_
            refine go_goto 52 dX12_rowTold_162 rfl ?_
            exact vc
          · replace vc := vc.2 q
            refine go_iconst (v := 1) dX12_rowTold_109 rfl ?_
            refine go_goto 114 dX12_rowTold_110 rfl ?_
            refine go_istore dX12_rowTold_114 (Nat.le_of_ble_eq_true rfl) ?_
            show gg p l e s m args below meth c G (d + 1) MX12_rowTold Q 116 [some (.ref 82), some (.int x1), some (.int x2), some (.int x3), some (.int 1)] [] h6
            refine go_iload (x := 1) dX12_rowTold_116 rfl ?_
            refine go_if_eq 149 dX12_rowTold_118 rfl (fun q => absurd q (by decide)) (fun q => ?_)
            refine go_aload_n (x := 82) dX12_rowTold_121 rfl ?_
            refine go_getR (x := 121) dX12_rowTold_122 f12_130 sh82 (fun _ _ => rfl) (rf82_48 hR) ?_
            refine go_bipush (v := 8) dX12_rowTold_125 rfl ?_
            refine go_aload_n (x := 82) dX12_rowTold_127 rfl ?_
            refine go_getR (x := 119) dX12_rowTold_128 f12_123 sh82 (fun _ _ => rfl) (rf82_46 hR) ?_
            refine go_iconst (v := 1) dX12_rowTold_131 rfl ?_
            refine go_iald' (v := (h6.1 119 1)) dX12_rowTold_132 sh119 (by unfold vp_in; decide) rfl ?_
            refine go_imul dX12_rowTold_133 ?_
            refine go_iload_n (x := x3) dX12_rowTold_134 rfl ?_
            refine go_iadd dX12_rowTold_135 ?_
            refine go_aload_n (x := 82) dX12_rowTold_136 rfl ?_
            refine go_getR (x := 83) dX12_rowTold_137 f12_7 sh82 (fun _ _ => rfl) (rf82_0 hR) ?_
            refine go_aload_n (x := 82) dX12_rowTold_140 rfl ?_
            refine go_getI' (v := (h6.1 82 2)) dX12_rowTold_141 f12_284 sh82 (fun _ _ => rfl) rfl ?_
            refine go_iald' (v := (h6.1 83 ((h6.1 82 2) : Int32).toNatClampNeg)) dX12_rowTold_144 sh83 vc.1 rfl ?_
            have vc := vc.2
            refine gsI1 MX12_kindOf dX12_rowTold_145 lX12_360 kX12_kindOf sX12_kindOf (Nat.le_of_ble_eq_true rfl) vc ?_
            intro v7 h7 vc
            obtain ⟨hR7, vc⟩ := vc
            replace hR := hR7.trans hR
            refine go_iast dX12_rowTold_148 sh121 vc.1 ?_
            have vc := vc.2
            show gg p l e s m args below meth c G (d + 1) MX12_rowTold Q 149 [some (.ref 82), some (.int x1), some (.int x2), some (.int x3), some (.int 1)] [] (sI h7 121 (((8 * (h6.1 119 1)) + x3) : Int32).toNatClampNeg v7)
            refine go_iinc (x := x3) dX12_rowTold_149 rfl ?_
            show gg p l e s m args below meth c G (d + 1) MX12_rowTold Q 152 [some (.ref 82), some (.int x1), some (.int x2), some (.int (x3 + 1)), some (.int 1)] [] (sI h7 121 (((8 * (h6.1 119 1)) + x3) : Int32).toNatClampNeg v7)
            refine go_aload_n (x := 82) dX12_rowTold_152 rfl ?_
            refine go_dup dX12_rowTold_153 rfl ?_
            refine go_getI' (v := (h7.1 82 2)) dX12_rowTold_154 f12_284 sh82 (fun _ _ => rfl) rfl ?_
            refine go_iconst (v := 1) dX12_rowTold_157 rfl ?_
            refine go_iadd dX12_rowTold_158 ?_
            refine go_putI dX12_rowTold_159 f12_284 sh82 rfl rfl ?_
            refine go_goto 52 dX12_rowTold_162 rfl ?_
            exact vc
set_option maxRecDepth 20000 in
theorem wX12_boatTold_0 {p : Program} {l : Launch} {e : Env} {s : State} {m : MethodId} {args : Array Value} {below : List Frame} {meth : Method} {c : Code} {G : gG} {d : Nat} {Q : Option Value → gH → Prop} {h : gH} {lk sp : Nat} {cd : Option Nat} {a1 : Int32} (hR : h.2.2 = gRF lk sp cd) (hlk : lk = 30 ∨ lk = 67) (hsp : sp = 30 ∨ sp = 67)  (vc : gC l G d MX12_isFull [.ref 82, .int 2, .int 6, .int a1] h (rI fun v1 h1 => h1.2.2 = (h).2.2 ∧ ((v1 = 0 → gC l G d MX12_newName [.ref 82] h1 (rL fun v2 h2 => h2.2.2 = (h1).2.2 ∧ gC l G d MX12_asks [.ref 82, .ref 88] h2 (rV fun h3 => h3.2.2 = (h2).2.2 ∧ gC l G d MX12_number [.ref 82, .int 0, .int 99] h3 (rI fun v4 h4 => h4.2.2 = (h3).2.2 ∧ gC l G d MX12_asks [.ref 82, .ref 89] h4 (rV fun h5 => h5.2.2 = (h4).2.2 ∧ gC l G d MX12_number [.ref 82, .int 0, .int ((h5.1 119 0) - 1)] h5 (rI fun v6 h6 => h6.2.2 = (h5).2.2 ∧ gC l G d MX12_number [.ref 82, .int 0, .int ((h6.1 119 1) - 1)] h6 (rI fun v7 h7 => h7.2.2 = (h6).2.2 ∧ ((¬ (h7.1 82 5) = 0 → (((h7.1 82 5) = 0 → (vp_in ((h7.1 119 2)) 24 ∧ (vp_in ((2 * (h7.1 119 2))) 24 ∧ (vp_in (((2 * (h7.1 119 2)) + 1)) 24 ∧ Q none (sI (sI (sI (sL h7 120 ((h7.1 119 2) : Int32).toNatClampNeg v2) 122 ((2 * (h7.1 119 2)) : Int32).toNatClampNeg v4) 122 (((2 * (h7.1 119 2)) + 1) : Int32).toNatClampNeg (((h7.1 119 0) * v7) + v6)) 119 2 ((h7.1 119 2) + 1)))))) ∧ (¬ (h7.1 82 5) = 0 → Q none h7))) ∧ ((h7.1 82 5) = 0 → (vp_in (((8 * v7) + v6)) 96 ∧ (((h7.1 121 (((8 * v7) + v6) : Int32).toNatClampNeg) = 0 → (((h7.1 82 5) = 0 → (vp_in ((h7.1 119 2)) 24 ∧ (vp_in ((2 * (h7.1 119 2))) 24 ∧ (vp_in (((2 * (h7.1 119 2)) + 1)) 24 ∧ Q none (sI (sI (sI (sL h7 120 ((h7.1 119 2) : Int32).toNatClampNeg v2) 122 ((2 * (h7.1 119 2)) : Int32).toNatClampNeg v4) 122 (((2 * (h7.1 119 2)) + 1) : Int32).toNatClampNeg (((h7.1 119 0) * v7) + v6)) 119 2 ((h7.1 119 2) + 1)))))) ∧ (¬ (h7.1 82 5) = 0 → Q none h7))) ∧ (¬ (h7.1 121 (((8 * v7) + v6) : Int32).toNatClampNeg) = 0 → gC l G d MX12_fail [.ref 82, .int 2, .int (h7.1 82 10)] h7 (rV fun h8 => h8.2.2 = (h7).2.2 ∧ (((h8.1 82 5) = 0 → (vp_in ((h8.1 119 2)) 24 ∧ (vp_in ((2 * (h8.1 119 2))) 24 ∧ (vp_in (((2 * (h8.1 119 2)) + 1)) 24 ∧ Q none (sI (sI (sI (sL h8 120 ((h8.1 119 2) : Int32).toNatClampNeg v2) 122 ((2 * (h8.1 119 2)) : Int32).toNatClampNeg v4) 122 (((2 * (h8.1 119 2)) + 1) : Int32).toNatClampNeg (((h8.1 119 0) * v7) + v6)) 119 2 ((h8.1 119 2) + 1)))))) ∧ (¬ (h8.1 82 5) = 0 → Q none h8))))))))))))))) ∧ (¬ v1 = 0 → Q none h1)))) : gg p l e s m args below meth c G (d + 1) MX12_boatTold Q 0 [some (.ref 82), some (.int a1), none, none, none, none, none] [] h := by
  refine go_aload_n (x := 82) dX12_boatTold_0 rfl ?_
  refine go_iconst (v := 2) dX12_boatTold_1 rfl ?_
  refine go_bipush (v := 6) dX12_boatTold_2 rfl ?_
  refine go_iload_n (x := a1) dX12_boatTold_4 rfl ?_
  refine gvI3 MX12_isFull dX12_boatTold_5 lX12_356 kX12_isFull vX12_isFull sh82 (by decide) rfl (Nat.le_of_ble_eq_true rfl) vc ?_
  intro v1 h1 vc
  obtain ⟨hR1, vc⟩ := vc
  replace hR := hR1.trans hR
  refine go_if_eq 12 dX12_boatTold_8 rfl (fun q => ?_) (fun q => ?_)
  · replace vc := vc.1 q
    refine go_aload_n (x := 82) dX12_boatTold_12 rfl ?_
    refine gvL0 MX12_newName dX12_boatTold_13 lX12_364 kX12_newName vX12_newName sh82 (by decide) rfl (Nat.le_of_ble_eq_true rfl) vc ?_
    intro v2 h2 vc
    obtain ⟨hR2, vc⟩ := vc
    replace hR := hR2.trans hR
    refine go_lstore_n dX12_boatTold_16 (Nat.le_of_ble_eq_true rfl) ?_
    show gg p l e s m args below meth c G (d + 1) MX12_boatTold Q 17 [some (.ref 82), some (.int a1), some (.long v2), none, none, none, none] [] h2
    refine go_aload_n (x := 82) dX12_boatTold_17 rfl ?_
    refine go_aload_n (x := 82) dX12_boatTold_18 rfl ?_
    refine go_getR (x := 88) dX12_boatTold_19 f12_30 sh82 (fun _ _ => rfl) (rf82_14 hR) ?_
    refine gvV1 MX12_asks dX12_boatTold_22 lX12_344 kX12_asks vX12_asks sh82 (by decide) rfl (Nat.le_of_ble_eq_true rfl) vc ?_
    intro h3 vc
    obtain ⟨hR3, vc⟩ := vc
    replace hR := hR3.trans hR
    refine go_aload_n (x := 82) dX12_boatTold_25 rfl ?_
    refine go_iconst (v := 0) dX12_boatTold_26 rfl ?_
    refine go_bipush (v := 99) dX12_boatTold_27 rfl ?_
    refine gvI2 MX12_number dX12_boatTold_29 lX12_348 kX12_number vX12_number sh82 (by decide) rfl (Nat.le_of_ble_eq_true rfl) vc ?_
    intro v4 h4 vc
    obtain ⟨hR4, vc⟩ := vc
    replace hR := hR4.trans hR
    refine go_istore dX12_boatTold_32 (Nat.le_of_ble_eq_true rfl) ?_
    show gg p l e s m args below meth c G (d + 1) MX12_boatTold Q 34 [some (.ref 82), some (.int a1), some (.long v2), none, some (.int v4), none, none] [] h4
    refine go_aload_n (x := 82) dX12_boatTold_34 rfl ?_
    refine go_aload_n (x := 82) dX12_boatTold_35 rfl ?_
    refine go_getR (x := 89) dX12_boatTold_36 f12_33 sh82 (fun _ _ => rfl) (rf82_15 hR) ?_
    refine gvV1 MX12_asks dX12_boatTold_39 lX12_344 kX12_asks vX12_asks sh82 (by decide) rfl (Nat.le_of_ble_eq_true rfl) vc ?_
    intro h5 vc
    obtain ⟨hR5, vc⟩ := vc
    replace hR := hR5.trans hR
    refine go_aload_n (x := 82) dX12_boatTold_42 rfl ?_
    refine go_iconst (v := 0) dX12_boatTold_43 rfl ?_
    refine go_aload_n (x := 82) dX12_boatTold_44 rfl ?_
    refine go_getR (x := 119) dX12_boatTold_45 f12_123 sh82 (fun _ _ => rfl) (rf82_46 hR) ?_
    refine go_iconst (v := 0) dX12_boatTold_48 rfl ?_
    refine go_iald' (v := (h5.1 119 0)) dX12_boatTold_49 sh119 (by unfold vp_in; decide) rfl ?_
    refine go_iconst (v := 1) dX12_boatTold_50 rfl ?_
    refine go_isub dX12_boatTold_51 ?_
    refine gvI2 MX12_number dX12_boatTold_52 lX12_348 kX12_number vX12_number sh82 (by decide) rfl (Nat.le_of_ble_eq_true rfl) vc ?_
    intro v6 h6 vc
    obtain ⟨hR6, vc⟩ := vc
    replace hR := hR6.trans hR
    refine go_istore dX12_boatTold_55 (Nat.le_of_ble_eq_true rfl) ?_
    show gg p l e s m args below meth c G (d + 1) MX12_boatTold Q 57 [some (.ref 82), some (.int a1), some (.long v2), none, some (.int v4), some (.int v6), none] [] h6
    refine go_aload_n (x := 82) dX12_boatTold_57 rfl ?_
    refine go_iconst (v := 0) dX12_boatTold_58 rfl ?_
    refine go_aload_n (x := 82) dX12_boatTold_59 rfl ?_
    refine go_getR (x := 119) dX12_boatTold_60 f12_123 sh82 (fun _ _ => rfl) (rf82_46 hR) ?_
    refine go_iconst (v := 1) dX12_boatTold_63 rfl ?_
    refine go_iald' (v := (h6.1 119 1)) dX12_boatTold_64 sh119 (by unfold vp_in; decide) rfl ?_
    refine go_iconst (v := 1) dX12_boatTold_65 rfl ?_
    refine go_isub dX12_boatTold_66 ?_
    refine gvI2 MX12_number dX12_boatTold_67 lX12_348 kX12_number vX12_number sh82 (by decide) rfl (Nat.le_of_ble_eq_true rfl) vc ?_
    intro v7 h7 vc
    obtain ⟨hR7, vc⟩ := vc
    replace hR := hR7.trans hR
    refine go_istore dX12_boatTold_70 (Nat.le_of_ble_eq_true rfl) ?_
    show gg p l e s m args below meth c G (d + 1) MX12_boatTold Q 72 [some (.ref 82), some (.int a1), some (.long v2), none, some (.int v4), some (.int v6), some (.int v7)] [] h7
    refine go_aload_n (x := 82) dX12_boatTold_72 rfl ?_
    refine go_getI' (v := (h7.1 82 5)) dX12_boatTold_73 f12_278 sh82 (fun _ _ => rfl) rfl ?_
    refine go_if_ne 104 dX12_boatTold_76 rfl (fun q => ?_) (fun q => ?_)
    · replace vc := vc.1 q
      refine go_aload_n (x := 82) dX12_boatTold_104 rfl ?_
      refine go_getI' (v := (h7.1 82 5)) dX12_boatTold_105 f12_278 sh82 (fun _ _ => rfl) rfl ?_
      refine go_if_eq 112 dX12_boatTold_108 rfl (fun q => ?_) (fun q => ?_)
      · replace vc := vc.1 q
        refine go_aload_n (x := 82) dX12_boatTold_112 rfl ?_
        refine go_getR (x := 120) dX12_boatTold_113 f12_126 sh82 (fun _ _ => rfl) (rf82_47 hR) ?_
        refine go_aload_n (x := 82) dX12_boatTold_116 rfl ?_
        refine go_getR (x := 119) dX12_boatTold_117 f12_123 sh82 (fun _ _ => rfl) (rf82_46 hR) ?_
        refine go_iconst (v := 2) dX12_boatTold_120 rfl ?_
        refine go_iald' (v := (h7.1 119 2)) dX12_boatTold_121 sh119 (by unfold vp_in; decide) rfl ?_
        refine go_lload_n (x := v2) dX12_boatTold_122 rfl ?_
        refine go_last dX12_boatTold_123 sh120 vc.1 ?_
        have vc := vc.2
        show gg p l e s m args below meth c G (d + 1) MX12_boatTold Q 124 [some (.ref 82), some (.int a1), some (.long v2), none, some (.int v4), some (.int v6), some (.int v7)] [] (sL h7 120 ((h7.1 119 2) : Int32).toNatClampNeg v2)
        refine go_aload_n (x := 82) dX12_boatTold_124 rfl ?_
        refine go_getR (x := 122) dX12_boatTold_125 f12_133 sh82 (fun _ _ => rfl) (rf82_49 hR) ?_
        refine go_iconst (v := 2) dX12_boatTold_128 rfl ?_
        refine go_aload_n (x := 82) dX12_boatTold_129 rfl ?_
        refine go_getR (x := 119) dX12_boatTold_130 f12_123 sh82 (fun _ _ => rfl) (rf82_46 hR) ?_
        refine go_iconst (v := 2) dX12_boatTold_133 rfl ?_
        refine go_iald' (v := (h7.1 119 2)) dX12_boatTold_134 sh119 (by unfold vp_in; decide) rfl ?_
        refine go_imul dX12_boatTold_135 ?_
        refine go_iload (x := v4) dX12_boatTold_136 rfl ?_
        refine go_iast dX12_boatTold_138 sh122 vc.1 ?_
        have vc := vc.2
        show gg p l e s m args below meth c G (d + 1) MX12_boatTold Q 139 [some (.ref 82), some (.int a1), some (.long v2), none, some (.int v4), some (.int v6), some (.int v7)] [] (sI (sL h7 120 ((h7.1 119 2) : Int32).toNatClampNeg v2) 122 ((2 * (h7.1 119 2)) : Int32).toNatClampNeg v4)
        refine go_aload_n (x := 82) dX12_boatTold_139 rfl ?_
        refine go_getR (x := 122) dX12_boatTold_140 f12_133 sh82 (fun _ _ => rfl) (rf82_49 hR) ?_
        refine go_iconst (v := 2) dX12_boatTold_143 rfl ?_
        refine go_aload_n (x := 82) dX12_boatTold_144 rfl ?_
        refine go_getR (x := 119) dX12_boatTold_145 f12_123 sh82 (fun _ _ => rfl) (rf82_46 hR) ?_
        refine go_iconst (v := 2) dX12_boatTold_148 rfl ?_
        refine go_iald' (v := (h7.1 119 2)) dX12_boatTold_149 sh119 (by unfold vp_in; decide) rfl ?_
        refine go_imul dX12_boatTold_150 ?_
        refine go_iconst (v := 1) dX12_boatTold_151 rfl ?_
        refine go_iadd dX12_boatTold_152 ?_
        refine go_aload_n (x := 82) dX12_boatTold_153 rfl ?_
        refine go_getR (x := 119) dX12_boatTold_154 f12_123 sh82 (fun _ _ => rfl) (rf82_46 hR) ?_
        refine go_iconst (v := 0) dX12_boatTold_157 rfl ?_
        refine go_iald' (v := (h7.1 119 0)) dX12_boatTold_158 sh119 (by unfold vp_in; decide) rfl ?_
        refine go_iload (x := v7) dX12_boatTold_159 rfl ?_
        refine go_imul dX12_boatTold_161 ?_
        refine go_iload (x := v6) dX12_boatTold_162 rfl ?_
        refine go_iadd dX12_boatTold_164 ?_
        refine go_iast dX12_boatTold_165 sh122 vc.1 ?_
        have vc := vc.2
        show gg p l e s m args below meth c G (d + 1) MX12_boatTold Q 166 [some (.ref 82), some (.int a1), some (.long v2), none, some (.int v4), some (.int v6), some (.int v7)] [] (sI (sI (sL h7 120 ((h7.1 119 2) : Int32).toNatClampNeg v2) 122 ((2 * (h7.1 119 2)) : Int32).toNatClampNeg v4) 122 (((2 * (h7.1 119 2)) + 1) : Int32).toNatClampNeg (((h7.1 119 0) * v7) + v6))
        refine go_aload_n (x := 82) dX12_boatTold_166 rfl ?_
        refine go_getR (x := 119) dX12_boatTold_167 f12_123 sh82 (fun _ _ => rfl) (rf82_46 hR) ?_
        refine go_iconst (v := 2) dX12_boatTold_170 rfl ?_
        refine go_dup2 dX12_boatTold_171 rfl rfl ?_
        refine go_iald' (v := (h7.1 119 2)) dX12_boatTold_172 sh119 (by unfold vp_in; decide) rfl ?_
        refine go_iconst (v := 1) dX12_boatTold_173 rfl ?_
        refine go_iadd dX12_boatTold_174 ?_
        refine go_iast dX12_boatTold_175 sh119 (by unfold vp_in; decide) ?_
        exact go_vret dX12_boatTold_176 rfl vc rfl (Nat.le_refl _) (Nat.le_refl _)
      · replace vc := vc.2 q
        exact go_vret dX12_boatTold_111 rfl vc rfl (Nat.le_refl _) (Nat.le_refl _)
    · replace vc := vc.2 q
      refine go_aload_n (x := 82) dX12_boatTold_79 rfl ?_
      refine go_getR (x := 121) dX12_boatTold_80 f12_130 sh82 (fun _ _ => rfl) (rf82_48 hR) ?_
      refine go_bipush (v := 8) dX12_boatTold_83 rfl ?_
      refine go_iload (x := v7) dX12_boatTold_85 rfl ?_
      refine go_imul dX12_boatTold_87 ?_
      refine go_iload (x := v6) dX12_boatTold_88 rfl ?_
      refine go_iadd dX12_boatTold_90 ?_
      refine go_iald' (v := (h7.1 121 (((8 * v7) + v6) : Int32).toNatClampNeg)) dX12_boatTold_91 sh121 vc.1 rfl ?_
      have vc := vc.2
      refine go_if_eq 104 dX12_boatTold_92 rfl (fun q => ?_) (fun q => ?_)
      · replace vc := vc.1 q
        refine go_aload_n (x := 82) dX12_boatTold_104 rfl ?_
        refine go_getI' (v := (h7.1 82 5)) dX12_boatTold_105 f12_278 sh82 (fun _ _ => rfl) rfl ?_
        refine go_if_eq 112 dX12_boatTold_108 rfl (fun q => ?_) (fun q => ?_)
        · replace vc := vc.1 q
          refine go_aload_n (x := 82) dX12_boatTold_112 rfl ?_
          refine go_getR (x := 120) dX12_boatTold_113 f12_126 sh82 (fun _ _ => rfl) (rf82_47 hR) ?_
          refine go_aload_n (x := 82) dX12_boatTold_116 rfl ?_
          refine go_getR (x := 119) dX12_boatTold_117 f12_123 sh82 (fun _ _ => rfl) (rf82_46 hR) ?_
          refine go_iconst (v := 2) dX12_boatTold_120 rfl ?_
          refine go_iald' (v := (h7.1 119 2)) dX12_boatTold_121 sh119 (by unfold vp_in; decide) rfl ?_
          refine go_lload_n (x := v2) dX12_boatTold_122 rfl ?_
          refine go_last dX12_boatTold_123 sh120 vc.1 ?_
          have vc := vc.2
          show gg p l e s m args below meth c G (d + 1) MX12_boatTold Q 124 [some (.ref 82), some (.int a1), some (.long v2), none, some (.int v4), some (.int v6), some (.int v7)] [] (sL h7 120 ((h7.1 119 2) : Int32).toNatClampNeg v2)
          refine go_aload_n (x := 82) dX12_boatTold_124 rfl ?_
          refine go_getR (x := 122) dX12_boatTold_125 f12_133 sh82 (fun _ _ => rfl) (rf82_49 hR) ?_
          refine go_iconst (v := 2) dX12_boatTold_128 rfl ?_
          refine go_aload_n (x := 82) dX12_boatTold_129 rfl ?_
          refine go_getR (x := 119) dX12_boatTold_130 f12_123 sh82 (fun _ _ => rfl) (rf82_46 hR) ?_
          refine go_iconst (v := 2) dX12_boatTold_133 rfl ?_
          refine go_iald' (v := (h7.1 119 2)) dX12_boatTold_134 sh119 (by unfold vp_in; decide) rfl ?_
          refine go_imul dX12_boatTold_135 ?_
          refine go_iload (x := v4) dX12_boatTold_136 rfl ?_
          refine go_iast dX12_boatTold_138 sh122 vc.1 ?_
          have vc := vc.2
          show gg p l e s m args below meth c G (d + 1) MX12_boatTold Q 139 [some (.ref 82), some (.int a1), some (.long v2), none, some (.int v4), some (.int v6), some (.int v7)] [] (sI (sL h7 120 ((h7.1 119 2) : Int32).toNatClampNeg v2) 122 ((2 * (h7.1 119 2)) : Int32).toNatClampNeg v4)
          refine go_aload_n (x := 82) dX12_boatTold_139 rfl ?_
          refine go_getR (x := 122) dX12_boatTold_140 f12_133 sh82 (fun _ _ => rfl) (rf82_49 hR) ?_
          refine go_iconst (v := 2) dX12_boatTold_143 rfl ?_
          refine go_aload_n (x := 82) dX12_boatTold_144 rfl ?_
          refine go_getR (x := 119) dX12_boatTold_145 f12_123 sh82 (fun _ _ => rfl) (rf82_46 hR) ?_
          refine go_iconst (v := 2) dX12_boatTold_148 rfl ?_
          refine go_iald' (v := (h7.1 119 2)) dX12_boatTold_149 sh119 (by unfold vp_in; decide) rfl ?_
          refine go_imul dX12_boatTold_150 ?_
          refine go_iconst (v := 1) dX12_boatTold_151 rfl ?_
          refine go_iadd dX12_boatTold_152 ?_
          refine go_aload_n (x := 82) dX12_boatTold_153 rfl ?_
          refine go_getR (x := 119) dX12_boatTold_154 f12_123 sh82 (fun _ _ => rfl) (rf82_46 hR) ?_
          refine go_iconst (v := 0) dX12_boatTold_157 rfl ?_
          refine go_iald' (v := (h7.1 119 0)) dX12_boatTold_158 sh119 (by unfold vp_in; decide) rfl ?_
          refine go_iload (x := v7) dX12_boatTold_159 rfl ?_
          refine go_imul dX12_boatTold_161 ?_
          refine go_iload (x := v6) dX12_boatTold_162 rfl ?_
          refine go_iadd dX12_boatTold_164 ?_
          refine go_iast dX12_boatTold_165 sh122 vc.1 ?_
          have vc := vc.2
          show gg p l e s m args below meth c G (d + 1) MX12_boatTold Q 166 [some (.ref 82), some (.int a1), some (.long v2), none, some (.int v4), some (.int v6), some (.int v7)] [] (sI (sI (sL h7 120 ((h7.1 119 2) : Int32).toNatClampNeg v2) 122 ((2 * (h7.1 119 2)) : Int32).toNatClampNeg v4) 122 (((2 * (h7.1 119 2)) + 1) : Int32).toNatClampNeg (((h7.1 119 0) * v7) + v6))
          refine go_aload_n (x := 82) dX12_boatTold_166 rfl ?_
          refine go_getR (x := 119) dX12_boatTold_167 f12_123 sh82 (fun _ _ => rfl) (rf82_46 hR) ?_
          refine go_iconst (v := 2) dX12_boatTold_170 rfl ?_
          refine go_dup2 dX12_boatTold_171 rfl rfl ?_
          refine go_iald' (v := (h7.1 119 2)) dX12_boatTold_172 sh119 (by unfold vp_in; decide) rfl ?_
          refine go_iconst (v := 1) dX12_boatTold_173 rfl ?_
          refine go_iadd dX12_boatTold_174 ?_
          refine go_iast dX12_boatTold_175 sh119 (by unfold vp_in; decide) ?_
          exact go_vret dX12_boatTold_176 rfl vc rfl (Nat.le_refl _) (Nat.le_refl _)
        · replace vc := vc.2 q
          exact go_vret dX12_boatTold_111 rfl vc rfl (Nat.le_refl _) (Nat.le_refl _)
      · replace vc := vc.2 q
        refine go_aload_n (x := 82) dX12_boatTold_95 rfl ?_
        refine go_iconst (v := 2) dX12_boatTold_96 rfl ?_
        refine go_aload_n (x := 82) dX12_boatTold_97 rfl ?_
        refine go_getI' (v := (h7.1 82 10)) dX12_boatTold_98 f12_318 sh82 (fun _ _ => rfl) rfl ?_
        refine gvV2 MX12_fail dX12_boatTold_101 lX12_308 kX12_fail vX12_fail sh82 (by decide) rfl (Nat.le_of_ble_eq_true rfl) vc ?_
        intro h8 vc
        obtain ⟨hR8, vc⟩ := vc
        replace hR := hR8.trans hR
        refine go_aload_n (x := 82) dX12_boatTold_104 rfl ?_
        refine go_getI' (v := (h8.1 82 5)) dX12_boatTold_105 f12_278 sh82 (fun _ _ => rfl) rfl ?_
        refine go_if_eq 112 dX12_boatTold_108 rfl (fun q => ?_) (fun q => ?_)
        · replace vc := vc.1 q
          refine go_aload_n (x := 82) dX12_boatTold_112 rfl ?_
          refine go_getR (x := 120) dX12_boatTold_113 f12_126 sh82 (fun _ _ => rfl) (rf82_47 hR) ?_
          refine go_aload_n (x := 82) dX12_boatTold_116 rfl ?_
          refine go_getR (x := 119) dX12_boatTold_117 f12_123 sh82 (fun _ _ => rfl) (rf82_46 hR) ?_
          refine go_iconst (v := 2) dX12_boatTold_120 rfl ?_
          refine go_iald' (v := (h8.1 119 2)) dX12_boatTold_121 sh119 (by unfold vp_in; decide) rfl ?_
          refine go_lload_n (x := v2) dX12_boatTold_122 rfl ?_
          refine go_last dX12_boatTold_123 sh120 vc.1 ?_
          have vc := vc.2
          show gg p l e s m args below meth c G (d + 1) MX12_boatTold Q 124 [some (.ref 82), some (.int a1), some (.long v2), none, some (.int v4), some (.int v6), some (.int v7)] [] (sL h8 120 ((h8.1 119 2) : Int32).toNatClampNeg v2)
          refine go_aload_n (x := 82) dX12_boatTold_124 rfl ?_
          refine go_getR (x := 122) dX12_boatTold_125 f12_133 sh82 (fun _ _ => rfl) (rf82_49 hR) ?_
          refine go_iconst (v := 2) dX12_boatTold_128 rfl ?_
          refine go_aload_n (x := 82) dX12_boatTold_129 rfl ?_
          refine go_getR (x := 119) dX12_boatTold_130 f12_123 sh82 (fun _ _ => rfl) (rf82_46 hR) ?_
          refine go_iconst (v := 2) dX12_boatTold_133 rfl ?_
          refine go_iald' (v := (h8.1 119 2)) dX12_boatTold_134 sh119 (by unfold vp_in; decide) rfl ?_
          refine go_imul dX12_boatTold_135 ?_
          refine go_iload (x := v4) dX12_boatTold_136 rfl ?_
          refine go_iast dX12_boatTold_138 sh122 vc.1 ?_
          have vc := vc.2
          show gg p l e s m args below meth c G (d + 1) MX12_boatTold Q 139 [some (.ref 82), some (.int a1), some (.long v2), none, some (.int v4), some (.int v6), some (.int v7)] [] (sI (sL h8 120 ((h8.1 119 2) : Int32).toNatClampNeg v2) 122 ((2 * (h8.1 119 2)) : Int32).toNatClampNeg v4)
          refine go_aload_n (x := 82) dX12_boatTold_139 rfl ?_
          refine go_getR (x := 122) dX12_boatTold_140 f12_133 sh82 (fun _ _ => rfl) (rf82_49 hR) ?_
          refine go_iconst (v := 2) dX12_boatTold_143 rfl ?_
          refine go_aload_n (x := 82) dX12_boatTold_144 rfl ?_
          refine go_getR (x := 119) dX12_boatTold_145 f12_123 sh82 (fun _ _ => rfl) (rf82_46 hR) ?_
          refine go_iconst (v := 2) dX12_boatTold_148 rfl ?_
          refine go_iald' (v := (h8.1 119 2)) dX12_boatTold_149 sh119 (by unfold vp_in; decide) rfl ?_
          refine go_imul dX12_boatTold_150 ?_
          refine go_iconst (v := 1) dX12_boatTold_151 rfl ?_
          refine go_iadd dX12_boatTold_152 ?_
          refine go_aload_n (x := 82) dX12_boatTold_153 rfl ?_
          refine go_getR (x := 119) dX12_boatTold_154 f12_123 sh82 (fun _ _ => rfl) (rf82_46 hR) ?_
          refine go_iconst (v := 0) dX12_boatTold_157 rfl ?_
          refine go_iald' (v := (h8.1 119 0)) dX12_boatTold_158 sh119 (by unfold vp_in; decide) rfl ?_
          refine go_iload (x := v7) dX12_boatTold_159 rfl ?_
          refine go_imul dX12_boatTold_161 ?_
          refine go_iload (x := v6) dX12_boatTold_162 rfl ?_
          refine go_iadd dX12_boatTold_164 ?_
          refine go_iast dX12_boatTold_165 sh122 vc.1 ?_
          have vc := vc.2
          show gg p l e s m args below meth c G (d + 1) MX12_boatTold Q 166 [some (.ref 82), some (.int a1), some (.long v2), none, some (.int v4), some (.int v6), some (.int v7)] [] (sI (sI (sL h8 120 ((h8.1 119 2) : Int32).toNatClampNeg v2) 122 ((2 * (h8.1 119 2)) : Int32).toNatClampNeg v4) 122 (((2 * (h8.1 119 2)) + 1) : Int32).toNatClampNeg (((h8.1 119 0) * v7) + v6))
          refine go_aload_n (x := 82) dX12_boatTold_166 rfl ?_
          refine go_getR (x := 119) dX12_boatTold_167 f12_123 sh82 (fun _ _ => rfl) (rf82_46 hR) ?_
          refine go_iconst (v := 2) dX12_boatTold_170 rfl ?_
          refine go_dup2 dX12_boatTold_171 rfl rfl ?_
          refine go_iald' (v := (h8.1 119 2)) dX12_boatTold_172 sh119 (by unfold vp_in; decide) rfl ?_
          refine go_iconst (v := 1) dX12_boatTold_173 rfl ?_
          refine go_iadd dX12_boatTold_174 ?_
          refine go_iast dX12_boatTold_175 sh119 (by unfold vp_in; decide) ?_
          exact go_vret dX12_boatTold_176 rfl vc rfl (Nat.le_refl _) (Nat.le_refl _)
        · replace vc := vc.2 q
          exact go_vret dX12_boatTold_111 rfl vc rfl (Nat.le_refl _) (Nat.le_refl _)
  · replace vc := vc.2 q
    exact go_vret dX12_boatTold_11 rfl vc rfl (Nat.le_refl _) (Nat.le_refl _)
set_option maxRecDepth 20000 in
theorem wX12_handTold_0 {p : Program} {l : Launch} {e : Env} {s : State} {m : MethodId} {args : Array Value} {below : List Frame} {meth : Method} {c : Code} {G : gG} {d : Nat} {Q : Option Value → gH → Prop} {h : gH} {lk sp : Nat} {cd : Option Nat} {a1 : Int32} (hR : h.2.2 = gRF lk sp cd) (hlk : lk = 30 ∨ lk = 67) (hsp : sp = 30 ∨ sp = 67)  (vc : gC l G d MX12_isFull [.ref 82, .int 3, .int 6, .int a1] h (rI fun v1 h1 => h1.2.2 = (h).2.2 ∧ ((v1 = 0 → gC l G d MX12_newName [.ref 82] h1 (rL fun v2 h2 => h2.2.2 = (h1).2.2 ∧ gC l G d MX12_asks [.ref 82, .ref 91] h2 (rV fun h3 => h3.2.2 = (h2).2.2 ∧ gC l G d MX12_number [.ref 82, .int 0, .int 9] h3 (rI fun v4 h4 => h4.2.2 = (h3).2.2 ∧ (((h4.1 82 5) = 0 → (vp_in ((6 + (h4.1 119 3))) 24 ∧ (vp_in ((h4.1 119 3)) 12 ∧ Q none (sI (sI (sL h4 120 ((6 + (h4.1 119 3)) : Int32).toNatClampNeg v2) 123 ((h4.1 119 3) : Int32).toNatClampNeg v4) 119 3 ((h4.1 119 3) + 1))))) ∧ (¬ (h4.1 82 5) = 0 → Q none h4)))))) ∧ (¬ v1 = 0 → Q none h1)))) : gg p l e s m args below meth c G (d + 1) MX12_handTold Q 0 [some (.ref 82), some (.int a1), none, none, none] [] h := by
  refine go_aload_n (x := 82) dX12_handTold_0 rfl ?_
  refine go_iconst (v := 3) dX12_handTold_1 rfl ?_
  refine go_bipush (v := 6) dX12_handTold_2 rfl ?_
  refine go_iload_n (x := a1) dX12_handTold_4 rfl ?_
  refine gvI3 MX12_isFull dX12_handTold_5 lX12_356 kX12_isFull vX12_isFull sh82 (by decide) rfl (Nat.le_of_ble_eq_true rfl) vc ?_
  intro v1 h1 vc
  obtain ⟨hR1, vc⟩ := vc
  replace hR := hR1.trans hR
  refine go_if_eq 12 dX12_handTold_8 rfl (fun q => ?_) (fun q => ?_)
  · replace vc := vc.1 q
    refine go_aload_n (x := 82) dX12_handTold_12 rfl ?_
    refine gvL0 MX12_newName dX12_handTold_13 lX12_364 kX12_newName vX12_newName sh82 (by decide) rfl (Nat.le_of_ble_eq_true rfl) vc ?_
    intro v2 h2 vc
    obtain ⟨hR2, vc⟩ := vc
    replace hR := hR2.trans hR
    refine go_lstore_n dX12_handTold_16 (Nat.le_of_ble_eq_true rfl) ?_
    show gg p l e s m args below meth c G (d + 1) MX12_handTold Q 17 [some (.ref 82), some (.int a1), some (.long v2), none, none] [] h2
    refine go_aload_n (x := 82) dX12_handTold_17 rfl ?_
    refine go_aload_n (x := 82) dX12_handTold_18 rfl ?_
    refine go_getR (x := 91) dX12_handTold_19 f12_39 sh82 (fun _ _ => rfl) (rf82_17 hR) ?_
    refine gvV1 MX12_asks dX12_handTold_22 lX12_344 kX12_asks vX12_asks sh82 (by decide) rfl (Nat.le_of_ble_eq_true rfl) vc ?_
    intro h3 vc
    obtain ⟨hR3, vc⟩ := vc
    replace hR := hR3.trans hR
    refine go_aload_n (x := 82) dX12_handTold_25 rfl ?_
    refine go_iconst (v := 0) dX12_handTold_26 rfl ?_
    refine go_bipush (v := 9) dX12_handTold_27 rfl ?_
    refine gvI2 MX12_number dX12_handTold_29 lX12_348 kX12_number vX12_number sh82 (by decide) rfl (Nat.le_of_ble_eq_true rfl) vc ?_
    intro v4 h4 vc
    obtain ⟨hR4, vc⟩ := vc
    replace hR := hR4.trans hR
    refine go_istore dX12_handTold_32 (Nat.le_of_ble_eq_true rfl) ?_
    show gg p l e s m args below meth c G (d + 1) MX12_handTold Q 34 [some (.ref 82), some (.int a1), some (.long v2), none, some (.int v4)] [] h4
    refine go_aload_n (x := 82) dX12_handTold_34 rfl ?_
    refine go_getI' (v := (h4.1 82 5)) dX12_handTold_35 f12_278 sh82 (fun _ _ => rfl) rfl ?_
    refine go_if_eq 42 dX12_handTold_38 rfl (fun q => ?_) (fun q => ?_)
    · replace vc := vc.1 q
      refine go_aload_n (x := 82) dX12_handTold_42 rfl ?_
      refine go_getR (x := 120) dX12_handTold_43 f12_126 sh82 (fun _ _ => rfl) (rf82_47 hR) ?_
      refine go_bipush (v := 6) dX12_handTold_46 rfl ?_
      refine go_aload_n (x := 82) dX12_handTold_48 rfl ?_
      refine go_getR (x := 119) dX12_handTold_49 f12_123 sh82 (fun _ _ => rfl) (rf82_46 hR) ?_
      refine go_iconst (v := 3) dX12_handTold_52 rfl ?_
      refine go_iald' (v := (h4.1 119 3)) dX12_handTold_53 sh119 (by unfold vp_in; decide) rfl ?_
      refine go_iadd dX12_handTold_54 ?_
      refine go_lload_n (x := v2) dX12_handTold_55 rfl ?_
      refine go_last dX12_handTold_56 sh120 vc.1 ?_
      have vc := vc.2
      show gg p l e s m args below meth c G (d + 1) MX12_handTold Q 57 [some (.ref 82), some (.int a1), some (.long v2), none, some (.int v4)] [] (sL h4 120 ((6 + (h4.1 119 3)) : Int32).toNatClampNeg v2)
      refine go_aload_n (x := 82) dX12_handTold_57 rfl ?_
      refine go_getR (x := 123) dX12_handTold_58 f12_136 sh82 (fun _ _ => rfl) (rf82_50 hR) ?_
      refine go_aload_n (x := 82) dX12_handTold_61 rfl ?_
      refine go_getR (x := 119) dX12_handTold_62 f12_123 sh82 (fun _ _ => rfl) (rf82_46 hR) ?_
      refine go_iconst (v := 3) dX12_handTold_65 rfl ?_
      refine go_iald' (v := (h4.1 119 3)) dX12_handTold_66 sh119 (by unfold vp_in; decide) rfl ?_
      refine go_iload (x := v4) dX12_handTold_67 rfl ?_
      refine go_iast dX12_handTold_69 sh123 vc.1 ?_
      have vc := vc.2
      show gg p l e s m args below meth c G (d + 1) MX12_handTold Q 70 [some (.ref 82), some (.int a1), some (.long v2), none, some (.int v4)] [] (sI (sL h4 120 ((6 + (h4.1 119 3)) : Int32).toNatClampNeg v2) 123 ((h4.1 119 3) : Int32).toNatClampNeg v4)
      refine go_aload_n (x := 82) dX12_handTold_70 rfl ?_
      refine go_getR (x := 119) dX12_handTold_71 f12_123 sh82 (fun _ _ => rfl) (rf82_46 hR) ?_
      refine go_iconst (v := 3) dX12_handTold_74 rfl ?_
      refine go_dup2 dX12_handTold_75 rfl rfl ?_
      refine go_iald' (v := (h4.1 119 3)) dX12_handTold_76 sh119 (by unfold vp_in; decide) rfl ?_
      refine go_iconst (v := 1) dX12_handTold_77 rfl ?_
      refine go_iadd dX12_handTold_78 ?_
      refine go_iast dX12_handTold_79 sh119 (by unfold vp_in; decide) ?_
      exact go_vret dX12_handTold_80 rfl vc rfl (Nat.le_refl _) (Nat.le_refl _)
    · replace vc := vc.2 q
      exact go_vret dX12_handTold_41 rfl vc rfl (Nat.le_refl _) (Nat.le_refl _)
  · replace vc := vc.2 q
    exact go_vret dX12_handTold_11 rfl vc rfl (Nat.le_refl _) (Nat.le_refl _)
set_option maxRecDepth 20000 in
theorem wX12_likesTold_0 {p : Program} {l : Launch} {e : Env} {s : State} {m : MethodId} {args : Array Value} {below : List Frame} {meth : Method} {c : Code} {G : gG} {d : Nat} {Q : Option Value → gH → Prop} {h : gH} {lk sp : Nat} {cd : Option Nat}  (hR : h.2.2 = gRF lk sp cd) (hlk : lk = 30 ∨ lk = 67) (hsp : sp = 30 ∨ sp = 67)  (vc : gC l G d MX12_oneOf [.ref 82, .int 0] h (rI fun v1 h1 => h1.2.2 = (h).2.2 ∧ gC l G d MX12_oneOf [.ref 82, .int 1] h1 (rI fun v2 h2 => h2.2.2 = (h1).2.2 ∧ gC l G d MX12_number [.ref 82, .int 0, .int 99] h2 (rI fun v3 h3 => h3.2.2 = (h2).2.2 ∧ ((¬ (h3.1 82 5) = 0 → Q none h3) ∧ ((h3.1 82 5) = 0 → (vp_in (((6 * v1) + v2)) 72 ∧ Q none (sI h3 124 (((6 * v1) + v2) : Int32).toNatClampNeg v3)))))))) : gg p l e s m args below meth c G (d + 1) MX12_likesTold Q 0 [some (.ref 82), none, none, none] [] h := by
  refine go_aload_n (x := 82) dX12_likesTold_0 rfl ?_
  refine go_iconst (v := 0) dX12_likesTold_1 rfl ?_
  refine gvI1 MX12_oneOf dX12_likesTold_2 lX12_367 kX12_oneOf vX12_oneOf sh82 (by decide) rfl (Nat.le_of_ble_eq_true rfl) vc ?_
  intro v1 h1 vc
  obtain ⟨hR1, vc⟩ := vc
  replace hR := hR1.trans hR
  refine go_istore_n dX12_likesTold_5 (Nat.le_of_ble_eq_true rfl) ?_
  show gg p l e s m args below meth c G (d + 1) MX12_likesTold Q 6 [some (.ref 82), some (.int v1), none, none] [] h1
  refine go_aload_n (x := 82) dX12_likesTold_6 rfl ?_
  refine go_iconst (v := 1) dX12_likesTold_7 rfl ?_
  refine gvI1 MX12_oneOf dX12_likesTold_8 lX12_367 kX12_oneOf vX12_oneOf sh82 (by decide) rfl (Nat.le_of_ble_eq_true rfl) vc ?_
  intro v2 h2 vc
  obtain ⟨hR2, vc⟩ := vc
  replace hR := hR2.trans hR
  refine go_istore_n dX12_likesTold_11 (Nat.le_of_ble_eq_true rfl) ?_
  show gg p l e s m args below meth c G (d + 1) MX12_likesTold Q 12 [some (.ref 82), some (.int v1), some (.int v2), none] [] h2
  refine go_aload_n (x := 82) dX12_likesTold_12 rfl ?_
  refine go_iconst (v := 0) dX12_likesTold_13 rfl ?_
  refine go_bipush (v := 99) dX12_likesTold_14 rfl ?_
  refine gvI2 MX12_number dX12_likesTold_16 lX12_348 kX12_number vX12_number sh82 (by decide) rfl (Nat.le_of_ble_eq_true rfl) vc ?_
  intro v3 h3 vc
  obtain ⟨hR3, vc⟩ := vc
  replace hR := hR3.trans hR
  refine go_istore_n dX12_likesTold_19 (Nat.le_of_ble_eq_true rfl) ?_
  show gg p l e s m args below meth c G (d + 1) MX12_likesTold Q 20 [some (.ref 82), some (.int v1), some (.int v2), some (.int v3)] [] h3
  refine go_aload_n (x := 82) dX12_likesTold_20 rfl ?_
  refine go_getI' (v := (h3.1 82 5)) dX12_likesTold_21 f12_278 sh82 (fun _ _ => rfl) rfl ?_
  refine go_if_ne 39 dX12_likesTold_24 rfl (fun q => ?_) (fun q => ?_)
  · replace vc := vc.1 q
    exact go_vret dX12_likesTold_39 rfl vc rfl (Nat.le_refl _) (Nat.le_refl _)
  · replace vc := vc.2 q
    refine go_aload_n (x := 82) dX12_likesTold_27 rfl ?_
    refine go_getR (x := 124) dX12_likesTold_28 f12_139 sh82 (fun _ _ => rfl) (rf82_51 hR) ?_
    refine go_bipush (v := 6) dX12_likesTold_31 rfl ?_
    refine go_iload_n (x := v1) dX12_likesTold_33 rfl ?_
    refine go_imul dX12_likesTold_34 ?_
    refine go_iload_n (x := v2) dX12_likesTold_35 rfl ?_
    refine go_iadd dX12_likesTold_36 ?_
    refine go_iload_n (x := v3) dX12_likesTold_37 rfl ?_
    refine go_iast dX12_likesTold_38 sh124 vc.1 ?_
    have vc := vc.2
    show gg p l e s m args below meth c G (d + 1) MX12_likesTold Q 39 [some (.ref 82), some (.int v1), some (.int v2), some (.int v3)] [] (sI h3 124 (((6 * v1) + v2) : Int32).toNatClampNeg v3)
    exact go_vret dX12_likesTold_39 rfl vc rfl (Nat.le_refl _) (Nat.le_refl _)
set_option maxRecDepth 20000 in
theorem wX12_skyTold_0 {p : Program} {l : Launch} {e : Env} {s : State} {m : MethodId} {args : Array Value} {below : List Frame} {meth : Method} {c : Code} {G : gG} {d : Nat} {Q : Option Value → gH → Prop} {h : gH} {lk sp : Nat} {cd : Option Nat} {a1 : Int32} {a2 : Int32} (hR : h.2.2 = gRF lk sp cd) (hlk : lk = 30 ∨ lk = 67) (hsp : sp = 30 ∨ sp = 67)  (vc : gC l G d MX12_isFull [.ref 82, .int 4, .int 10, .int a2] h (rI fun v1 h1 => h1.2.2 = (h).2.2 ∧ ((v1 = 0 → gC l G d MX12_asks [.ref 82, .ref 89] h1 (rV fun h2 => h2.2.2 = (h1).2.2 ∧ gC l G d MX12_number [.ref 82, .int 0, .int 99] h2 (rI fun v3 h3 => h3.2.2 = (h2).2.2 ∧ gg p l e s m args below meth c G (d + 1) MX12_skyTold Q 31 [some (.ref 82), some (.int a1), some (.int a2), some (.int v3), some (.int 0)] [] h3))) ∧ (¬ v1 = 0 → Q none h1)))) : gg p l e s m args below meth c G (d + 1) MX12_skyTold Q 0 [some (.ref 82), some (.int a1), some (.int a2), none, none] [] h := by
  refine go_aload_n (x := 82) dX12_skyTold_0 rfl ?_
  refine go_iconst (v := 4) dX12_skyTold_1 rfl ?_
  refine go_bipush (v := 10) dX12_skyTold_2 rfl ?_
  refine go_iload_n (x := a2) dX12_skyTold_4 rfl ?_
  refine gvI3 MX12_isFull dX12_skyTold_5 lX12_356 kX12_isFull vX12_isFull sh82 (by decide) rfl (Nat.le_of_ble_eq_true rfl) vc ?_
  intro v1 h1 vc
  obtain ⟨hR1, vc⟩ := vc
  replace hR := hR1.trans hR
  refine go_if_eq 12 dX12_skyTold_8 rfl (fun q => ?_) (fun q => ?_)
  · replace vc := vc.1 q
    refine go_aload_n (x := 82) dX12_skyTold_12 rfl ?_
    refine go_aload_n (x := 82) dX12_skyTold_13 rfl ?_
    refine go_getR (x := 89) dX12_skyTold_14 f12_33 sh82 (fun _ _ => rfl) (rf82_15 hR) ?_
    refine gvV1 MX12_asks dX12_skyTold_17 lX12_344 kX12_asks vX12_asks sh82 (by decide) rfl (Nat.le_of_ble_eq_true rfl) vc ?_
    intro h2 vc
    obtain ⟨hR2, vc⟩ := vc
    replace hR := hR2.trans hR
    refine go_aload_n (x := 82) dX12_skyTold_20 rfl ?_
    refine go_iconst (v := 0) dX12_skyTold_21 rfl ?_
    refine go_bipush (v := 99) dX12_skyTold_22 rfl ?_
    refine gvI2 MX12_number dX12_skyTold_24 lX12_348 kX12_number vX12_number sh82 (by decide) rfl (Nat.le_of_ble_eq_true rfl) vc ?_
    intro v3 h3 vc
    obtain ⟨hR3, vc⟩ := vc
    replace hR := hR3.trans hR
    refine go_istore_n dX12_skyTold_27 (Nat.le_of_ble_eq_true rfl) ?_
    show gg p l e s m args below meth c G (d + 1) MX12_skyTold Q 28 [some (.ref 82), some (.int a1), some (.int a2), some (.int v3), none] [] h3
    refine go_iconst (v := 0) dX12_skyTold_28 rfl ?_
    refine go_istore dX12_skyTold_29 (Nat.le_of_ble_eq_true rfl) ?_
    show gg p l e s m args below meth c G (d + 1) MX12_skyTold Q 31 [some (.ref 82), some (.int a1), some (.int a2), some (.int v3), some (.int 0)] [] h3
    exact vc
  · replace vc := vc.2 q
    exact go_vret dX12_skyTold_11 rfl vc rfl (Nat.le_refl _) (Nat.le_refl _)
set_option maxRecDepth 20000 in
theorem wX12_skyTold_31 {p : Program} {l : Launch} {e : Env} {s : State} {m : MethodId} {args : Array Value} {below : List Frame} {meth : Method} {c : Code} {G : gG} {d : Nat} {Q : Option Value → gH → Prop} {h : gH} {lk sp : Nat} {cd : Option Nat} {x1 : Int32} {x2 : Int32} {x3 : Int32} {x4 : Int32} (hR : h.2.2 = gRF lk sp cd) (hlk : lk = 30 ∨ lk = 67) (hsp : sp = 30 ∨ sp = 67)  (vc : (((h.1 119 4) ≤ x4 → (((h.1 82 5) = 0 → (vp_in ((2 * (h.1 119 4))) 40 ∧ (vp_in (((2 * (h.1 119 4)) + 1)) 40 ∧ Q none (sI (sI (sI h 125 ((2 * (h.1 119 4)) : Int32).toNatClampNeg x3) 125 (((2 * (h.1 119 4)) + 1) : Int32).toNatClampNeg x1) 119 4 ((h.1 119 4) + 1))))) ∧ (¬ (h.1 82 5) = 0 → Q none h))) ∧ (¬ (h.1 119 4) ≤ x4 → ((¬ (h.1 82 5) = 0 → gg p l e s m args below meth c G (d + 1) MX12_skyTold Q 31 [some (.ref 82), some (.int x1), some (.int x2), some (.int x3), some (.int (x4 + 1))] [] h) ∧ ((h.1 82 5) = 0 → (vp_in ((2 * x4)) 40 ∧ ((¬ (h.1 125 ((2 * x4) : Int32).toNatClampNeg) = x3 → gg p l e s m args below meth c G (d + 1) MX12_skyTold Q 31 [some (.ref 82), some (.int x1), some (.int x2), some (.int x3), some (.int (x4 + 1))] [] h) ∧ ((h.1 125 ((2 * x4) : Int32).toNatClampNeg) = x3 → gC l G d MX12_fail [.ref 82, .int 2, .int (h.1 82 10)] h (rV fun h1 => h1.2.2 = (h).2.2 ∧ gg p l e s m args below meth c G (d + 1) MX12_skyTold Q 31 [some (.ref 82), some (.int x1), some (.int x2), some (.int x3), some (.int (x4 + 1))] [] h1))))))))) : gg p l e s m args below meth c G (d + 1) MX12_skyTold Q 31 [some (.ref 82), some (.int x1), some (.int x2), some (.int x3), some (.int x4)] [] h := by
  refine go_iload (x := x4) dX12_skyTold_31 rfl ?_
  refine go_aload_n (x := 82) dX12_skyTold_33 rfl ?_
  refine go_getR (x := 119) dX12_skyTold_34 f12_123 sh82 (fun _ _ => rfl) (rf82_46 hR) ?_
  refine go_iconst (v := 4) dX12_skyTold_37 rfl ?_
  refine go_iald' (v := (h.1 119 4)) dX12_skyTold_38 sh119 (by unfold vp_in; decide) rfl ?_
  refine go_icmp_ge 77 dX12_skyTold_39 rfl (fun q => ?_) (fun q => ?_)
  · replace vc := vc.1 q
    refine go_aload_n (x := 82) dX12_skyTold_77 rfl ?_
    refine go_getI' (v := (h.1 82 5)) dX12_skyTold_78 f12_278 sh82 (fun _ _ => rfl) rfl ?_
    refine go_if_eq 85 dX12_skyTold_81 rfl (fun q => ?_) (fun q => ?_)
    · replace vc := vc.1 q
      refine go_aload_n (x := 82) dX12_skyTold_85 rfl ?_
      refine go_getR (x := 125) dX12_skyTold_86 f12_142 sh82 (fun _ _ => rfl) (rf82_52 hR) ?_
      refine go_iconst (v := 2) dX12_skyTold_89 rfl ?_
      refine go_aload_n (x := 82) dX12_skyTold_90 rfl ?_
      refine go_getR (x := 119) dX12_skyTold_91 f12_123 sh82 (fun _ _ => rfl) (rf82_46 hR) ?_
      refine go_iconst (v := 4) dX12_skyTold_94 rfl ?_
      refine go_iald' (v := (h.1 119 4)) dX12_skyTold_95 sh119 (by unfold vp_in; decide) rfl ?_
      refine go_imul dX12_skyTold_96 ?_
      refine go_iload_n (x := x3) dX12_skyTold_97 rfl ?_
      refine go_iast dX12_skyTold_98 sh125 vc.1 ?_
      have vc := vc.2
      show gg p l e s m args below meth c G (d + 1) MX12_skyTold Q 99 [some (.ref 82), some (.int x1), some (.int x2), some (.int x3), some (.int x4)] [] (sI h 125 ((2 * (h.1 119 4)) : Int32).toNatClampNeg x3)
      refine go_aload_n (x := 82) dX12_skyTold_99 rfl ?_
      refine go_getR (x := 125) dX12_skyTold_100 f12_142 sh82 (fun _ _ => rfl) (rf82_52 hR) ?_
      refine go_iconst (v := 2) dX12_skyTold_103 rfl ?_
      refine go_aload_n (x := 82) dX12_skyTold_104 rfl ?_
      refine go_getR (x := 119) dX12_skyTold_105 f12_123 sh82 (fun _ _ => rfl) (rf82_46 hR) ?_
      refine go_iconst (v := 4) dX12_skyTold_108 rfl ?_
      refine go_iald' (v := (h.1 119 4)) dX12_skyTold_109 sh119 (by unfold vp_in; decide) rfl ?_
      refine go_imul dX12_skyTold_110 ?_
      refine go_iconst (v := 1) dX12_skyTold_111 rfl ?_
      refine go_iadd dX12_skyTold_112 ?_
      refine go_iload_n (x := x1) dX12_skyTold_113 rfl ?_
      refine go_iast dX12_skyTold_114 sh125 vc.1 ?_
      have vc := vc.2
      show gg p l e s m args below meth c G (d + 1) MX12_skyTold Q 115 [some (.ref 82), some (.int x1), some (.int x2), some (.int x3), some (.int x4)] [] (sI (sI h 125 ((2 * (h.1 119 4)) : Int32).toNatClampNeg x3) 125 (((2 * (h.1 119 4)) + 1) : Int32).toNatClampNeg x1)
      refine go_aload_n (x := 82) dX12_skyTold_115 rfl ?_
      refine go_getR (x := 119) dX12_skyTold_116 f12_123 sh82 (fun _ _ => rfl) (rf82_46 hR) ?_
      refine go_iconst (v := 4) dX12_skyTold_119 rfl ?_
      refine go_dup2 dX12_skyTold_120 rfl rfl ?_
      refine go_iald' (v := (h.1 119 4)) dX12_skyTold_121 sh119 (by unfold vp_in; decide) rfl ?_
      refine go_iconst (v := 1) dX12_skyTold_122 rfl ?_
      refine go_iadd dX12_skyTold_123 ?_
      refine go_iast dX12_skyTold_124 sh119 (by unfold vp_in; decide) ?_
      exact go_vret dX12_skyTold_125 rfl vc rfl (Nat.le_refl _) (Nat.le_refl _)
    · replace vc := vc.2 q
      exact go_vret dX12_skyTold_84 rfl vc rfl (Nat.le_refl _) (Nat.le_refl _)
  · replace vc := vc.2 q
    refine go_aload_n (x := 82) dX12_skyTold_42 rfl ?_
    refine go_getI' (v := (h.1 82 5)) dX12_skyTold_43 f12_278 sh82 (fun _ _ => rfl) rfl ?_
    refine go_if_ne 71 dX12_skyTold_46 rfl (fun q => ?_) (fun q => ?_)
    · replace vc := vc.1 q
      refine go_iinc (x := x4) dX12_skyTold_71 rfl ?_
      show gg p l e s m args below meth c G (d + 1) MX12_skyTold Q 74 [some (.ref 82), some (.int x1), some (.int x2), some (.int x3), some (.int (x4 + 1))] [] h
      refine go_goto 31 dX12_skyTold_74 rfl ?_
      exact vc
    · replace vc := vc.2 q
      refine go_aload_n (x := 82) dX12_skyTold_49 rfl ?_
      refine go_getR (x := 125) dX12_skyTold_50 f12_142 sh82 (fun _ _ => rfl) (rf82_52 hR) ?_
      refine go_iconst (v := 2) dX12_skyTold_53 rfl ?_
      refine go_iload (x := x4) dX12_skyTold_54 rfl ?_
      refine go_imul dX12_skyTold_56 ?_
      refine go_iald' (v := (h.1 125 ((2 * x4) : Int32).toNatClampNeg)) dX12_skyTold_57 sh125 vc.1 rfl ?_
      have vc := vc.2
      refine go_iload_n (x := x3) dX12_skyTold_58 rfl ?_
      refine go_icmp_ne 71 dX12_skyTold_59 rfl (fun q => ?_) (fun q => ?_)
      · replace vc := vc.1 q
        refine go_iinc (x := x4) dX12_skyTold_71 rfl ?_
        show gg p l e s m args below meth c G (d + 1) MX12_skyTold Q 74 [some (.ref 82), some (.int x1), some (.int x2), some (.int x3), some (.int (x4 + 1))] [] h
        refine go_goto 31 dX12_skyTold_74 rfl ?_
        exact vc
      · replace vc := vc.2 q
        refine go_aload_n (x := 82) dX12_skyTold_62 rfl ?_
        refine go_iconst (v := 2) dX12_skyTold_63 rfl ?_
        refine go_aload_n (x := 82) dX12_skyTold_64 rfl ?_
        refine go_getI' (v := (h.1 82 10)) dX12_skyTold_65 f12_318 sh82 (fun _ _ => rfl) rfl ?_
        refine gvV2 MX12_fail dX12_skyTold_68 lX12_308 kX12_fail vX12_fail sh82 (by decide) rfl (Nat.le_of_ble_eq_true rfl) vc ?_
        intro h1 vc
        obtain ⟨hR1, vc⟩ := vc
        replace hR := hR1.trans hR
        refine go_iinc (x := x4) dX12_skyTold_71 rfl ?_
        show gg p l e s m args below meth c G (d + 1) MX12_skyTold Q 74 [some (.ref 82), some (.int x1), some (.int x2), some (.int x3), some (.int (x4 + 1))] [] h1
        refine go_goto 31 dX12_skyTold_74 rfl ?_
        exact vc
set_option maxRecDepth 20000 in
theorem wX12_sumIsTold_0 {p : Program} {l : Launch} {e : Env} {s : State} {m : MethodId} {args : Array Value} {below : List Frame} {meth : Method} {c : Code} {G : gG} {d : Nat} {Q : Option Value → gH → Prop} {h : gH} {lk sp : Nat} {cd : Option Nat} {a1 : Int32} {a2 : Int32} (hR : h.2.2 = gRF lk sp cd) (hlk : lk = 30 ∨ lk = 67) (hsp : sp = 30 ∨ sp = 67)  (vc : ((¬ (h.1 82 5) = 0 → (((h.1 82 5) = 0 → ((¬ a1 = 0 → (vp_in a1 6 ∧ gC l G d MX12_sumsTold [.ref 82] (sI (sI (sI (sI (sI h 82 57 0) 127 a1.toNatClampNeg (h.1 82 60)) 82 62 0) 82 63 0) 82 64 0) (rV fun h1 => h1.2.2 = ((sI (sI (sI (sI (sI h 82 57 0) 127 a1.toNatClampNeg (h.1 82 60)) 82 62 0) 82 63 0) 82 64 0)).2.2 ∧ (vp_in a1 6 ∧ Q none (sI h1 128 a1.toNatClampNeg (h1.1 82 60)))))) ∧ (a1 = 0 → (vp_in a1 6 ∧ gC l G d MX12_sumsTold [.ref 82] (sI (sI (sI (sI (sI h 82 57 1) 127 a1.toNatClampNeg (h.1 82 60)) 82 62 0) 82 63 0) 82 64 0) (rV fun h2 => h2.2.2 = ((sI (sI (sI (sI (sI h 82 57 1) 127 a1.toNatClampNeg (h.1 82 60)) 82 62 0) 82 63 0) 82 64 0)).2.2 ∧ (vp_in a1 6 ∧ Q none (sI h2 128 a1.toNatClampNeg (h2.1 82 60)))))))) ∧ (¬ (h.1 82 5) = 0 → Q none h))) ∧ ((h.1 82 5) = 0 → (vp_in a1 6 ∧ (((h.1 127 a1.toNatClampNeg) = (-1) → (((h.1 82 5) = 0 → ((¬ a1 = 0 → (vp_in a1 6 ∧ gC l G d MX12_sumsTold [.ref 82] (sI (sI (sI (sI (sI h 82 57 0) 127 a1.toNatClampNeg (h.1 82 60)) 82 62 0) 82 63 0) 82 64 0) (rV fun h3 => h3.2.2 = ((sI (sI (sI (sI (sI h 82 57 0) 127 a1.toNatClampNeg (h.1 82 60)) 82 62 0) 82 63 0) 82 64 0)).2.2 ∧ (vp_in a1 6 ∧ Q none (sI h3 128 a1.toNatClampNeg (h3.1 82 60)))))) ∧ (a1 = 0 → (vp_in a1 6 ∧ gC l G d MX12_sumsTold [.ref 82] (sI (sI (sI (sI (sI h 82 57 1) 127 a1.toNatClampNeg (h.1 82 60)) 82 62 0) 82 63 0) 82 64 0) (rV fun h4 => h4.2.2 = ((sI (sI (sI (sI (sI h 82 57 1) 127 a1.toNatClampNeg (h.1 82 60)) 82 62 0) 82 63 0) 82 64 0)).2.2 ∧ (vp_in a1 6 ∧ Q none (sI h4 128 a1.toNatClampNeg (h4.1 82 60)))))))) ∧ (¬ (h.1 82 5) = 0 → Q none h))) ∧ (¬ (h.1 127 a1.toNatClampNeg) = (-1) → gC l G d MX12_fail [.ref 82, .int 5, .int a2] h (rV fun h5 => h5.2.2 = (h).2.2 ∧ (((h5.1 82 5) = 0 → ((¬ a1 = 0 → (vp_in a1 6 ∧ gC l G d MX12_sumsTold [.ref 82] (sI (sI (sI (sI (sI h5 82 57 0) 127 a1.toNatClampNeg (h5.1 82 60)) 82 62 0) 82 63 0) 82 64 0) (rV fun h6 => h6.2.2 = ((sI (sI (sI (sI (sI h5 82 57 0) 127 a1.toNatClampNeg (h5.1 82 60)) 82 62 0) 82 63 0) 82 64 0)).2.2 ∧ (vp_in a1 6 ∧ Q none (sI h6 128 a1.toNatClampNeg (h6.1 82 60)))))) ∧ (a1 = 0 → (vp_in a1 6 ∧ gC l G d MX12_sumsTold [.ref 82] (sI (sI (sI (sI (sI h5 82 57 1) 127 a1.toNatClampNeg (h5.1 82 60)) 82 62 0) 82 63 0) 82 64 0) (rV fun h7 => h7.2.2 = ((sI (sI (sI (sI (sI h5 82 57 1) 127 a1.toNatClampNeg (h5.1 82 60)) 82 62 0) 82 63 0) 82 64 0)).2.2 ∧ (vp_in a1 6 ∧ Q none (sI h7 128 a1.toNatClampNeg (h7.1 82 60)))))))) ∧ (¬ (h5.1 82 5) = 0 → Q none h5))))))))) : gg p l e s m args below meth c G (d + 1) MX12_sumIsTold Q 0 [some (.ref 82), some (.int a1), some (.int a2)] [] h := by
  refine go_aload_n (x := 82) dX12_sumIsTold_0 rfl ?_
  refine go_getI' (v := (h.1 82 5)) dX12_sumIsTold_1 f12_278 sh82 (fun _ _ => rfl) rfl ?_
  refine go_if_ne 23 dX12_sumIsTold_4 rfl (fun q => ?_) (fun q => ?_)
  · replace vc := vc.1 q
    refine go_aload_n (x := 82) dX12_sumIsTold_23 rfl ?_
    refine go_getI' (v := (h.1 82 5)) dX12_sumIsTold_24 f12_278 sh82 (fun _ _ => rfl) rfl ?_
    refine go_if_eq 31 dX12_sumIsTold_27 rfl (fun q => ?_) (fun q => ?_)
    · replace vc := vc.1 q
      refine go_aload_n (x := 82) dX12_sumIsTold_31 rfl ?_
      refine go_iload_n (x := a1) dX12_sumIsTold_32 rfl ?_
      refine go_if_ne 40 dX12_sumIsTold_33 rfl (fun q => ?_) (fun q => ?_)
      · replace vc := vc.1 q
        refine go_iconst (v := 0) dX12_sumIsTold_40 rfl ?_
        refine go_putZ dX12_sumIsTold_41 f12_370 sh82 rfl rfl (by decide) ?_
        refine go_aload_n (x := 82) dX12_sumIsTold_44 rfl ?_
        refine go_getR (x := 127) dX12_sumIsTold_45 f12_148 sh82 (fun _ _ => rfl) (rf82_54 hR) ?_
        refine go_iload_n (x := a1) dX12_sumIsTold_48 rfl ?_
        refine go_aload_n (x := 82) dX12_sumIsTold_49 rfl ?_
        refine go_getI' (v := (h.1 82 60)) dX12_sumIsTold_50 f12_374 sh82 (fun _ _ => rfl) rfl ?_
        refine go_iast dX12_sumIsTold_53 sh127 vc.1 ?_
        have vc := vc.2
        show gg p l e s m args below meth c G (d + 1) MX12_sumIsTold Q 54 [some (.ref 82), some (.int a1), some (.int a2)] [] (sI (sI h 82 57 0) 127 a1.toNatClampNeg (h.1 82 60))
        refine go_aload_n (x := 82) dX12_sumIsTold_54 rfl ?_
        refine go_iconst (v := 0) dX12_sumIsTold_55 rfl ?_
        refine go_putI dX12_sumIsTold_56 f12_377 sh82 rfl rfl ?_
        refine go_aload_n (x := 82) dX12_sumIsTold_59 rfl ?_
        refine go_iconst (v := 0) dX12_sumIsTold_60 rfl ?_
        refine go_putI dX12_sumIsTold_61 f12_380 sh82 rfl rfl ?_
        refine go_aload_n (x := 82) dX12_sumIsTold_64 rfl ?_
        refine go_iconst (v := 0) dX12_sumIsTold_65 rfl ?_
        refine go_putI dX12_sumIsTold_66 f12_383 sh82 rfl rfl ?_
        refine go_aload_n (x := 82) dX12_sumIsTold_69 rfl ?_
        refine gvV0 MX12_sumsTold dX12_sumIsTold_70 lX12_386 kX12_sumsTold vX12_sumsTold sh82 (by decide) rfl (Nat.le_of_ble_eq_true rfl) vc ?_
        intro h1 vc
        obtain ⟨hR1, vc⟩ := vc
        replace hR := hR1.trans hR
        refine go_aload_n (x := 82) dX12_sumIsTold_73 rfl ?_
        refine go_getR (x := 128) dX12_sumIsTold_74 f12_151 sh82 (fun _ _ => rfl) (rf82_55 hR) ?_
        refine go_iload_n (x := a1) dX12_sumIsTold_77 rfl ?_
        refine go_aload_n (x := 82) dX12_sumIsTold_78 rfl ?_
        refine go_getI' (v := (h1.1 82 60)) dX12_sumIsTold_79 f12_374 sh82 (fun _ _ => rfl) rfl ?_
        refine go_iast dX12_sumIsTold_82 sh128 vc.1 ?_
        have vc := vc.2
        show gg p l e s m args below meth c G (d + 1) MX12_sumIsTold Q 83 [some (.ref 82), some (.int a1), some (.int a2)] [] (sI h1 128 a1.toNatClampNeg (h1.1 82 60))
        exact go_vret dX12_sumIsTold_83 rfl vc rfl (Nat.le_refl _) (Nat.le_refl _)
      · replace vc := vc.2 q
        refine go_iconst (v := 1) dX12_sumIsTold_36 rfl ?_
        refine go_goto 41 dX12_sumIsTold_37 rfl ?_
        refine go_putZ dX12_sumIsTold_41 f12_370 sh82 rfl rfl (by decide) ?_
        refine go_aload_n (x := 82) dX12_sumIsTold_44 rfl ?_
        refine go_getR (x := 127) dX12_sumIsTold_45 f12_148 sh82 (fun _ _ => rfl) (rf82_54 hR) ?_
        refine go_iload_n (x := a1) dX12_sumIsTold_48 rfl ?_
        refine go_aload_n (x := 82) dX12_sumIsTold_49 rfl ?_
        refine go_getI' (v := (h.1 82 60)) dX12_sumIsTold_50 f12_374 sh82 (fun _ _ => rfl) rfl ?_
        refine go_iast dX12_sumIsTold_53 sh127 vc.1 ?_
        have vc := vc.2
        show gg p l e s m args below meth c G (d + 1) MX12_sumIsTold Q 54 [some (.ref 82), some (.int a1), some (.int a2)] [] (sI (sI h 82 57 1) 127 a1.toNatClampNeg (h.1 82 60))
        refine go_aload_n (x := 82) dX12_sumIsTold_54 rfl ?_
        refine go_iconst (v := 0) dX12_sumIsTold_55 rfl ?_
        refine go_putI dX12_sumIsTold_56 f12_377 sh82 rfl rfl ?_
        refine go_aload_n (x := 82) dX12_sumIsTold_59 rfl ?_
        refine go_iconst (v := 0) dX12_sumIsTold_60 rfl ?_
        refine go_putI dX12_sumIsTold_61 f12_380 sh82 rfl rfl ?_
        refine go_aload_n (x := 82) dX12_sumIsTold_64 rfl ?_
        refine go_iconst (v := 0) dX12_sumIsTold_65 rfl ?_
        refine go_putI dX12_sumIsTold_66 f12_383 sh82 rfl rfl ?_
        refine go_aload_n (x := 82) dX12_sumIsTold_69 rfl ?_
        refine gvV0 MX12_sumsTold dX12_sumIsTold_70 lX12_386 kX12_sumsTold vX12_sumsTold sh82 (by decide) rfl (Nat.le_of_ble_eq_true rfl) vc ?_
        intro h2 vc
        obtain ⟨hR2, vc⟩ := vc
        replace hR := hR2.trans hR
        refine go_aload_n (x := 82) dX12_sumIsTold_73 rfl ?_
        refine go_getR (x := 128) dX12_sumIsTold_74 f12_151 sh82 (fun _ _ => rfl) (rf82_55 hR) ?_
        refine go_iload_n (x := a1) dX12_sumIsTold_77 rfl ?_
        refine go_aload_n (x := 82) dX12_sumIsTold_78 rfl ?_
        refine go_getI' (v := (h2.1 82 60)) dX12_sumIsTold_79 f12_374 sh82 (fun _ _ => rfl) rfl ?_
        refine go_iast dX12_sumIsTold_82 sh128 vc.1 ?_
        have vc := vc.2
        show gg p l e s m args below meth c G (d + 1) MX12_sumIsTold Q 83 [some (.ref 82), some (.int a1), some (.int a2)] [] (sI h2 128 a1.toNatClampNeg (h2.1 82 60))
        exact go_vret dX12_sumIsTold_83 rfl vc rfl (Nat.le_refl _) (Nat.le_refl _)
    · replace vc := vc.2 q
      exact go_vret dX12_sumIsTold_30 rfl vc rfl (Nat.le_refl _) (Nat.le_refl _)
  · replace vc := vc.2 q
    refine go_aload_n (x := 82) dX12_sumIsTold_7 rfl ?_
    refine go_getR (x := 127) dX12_sumIsTold_8 f12_148 sh82 (fun _ _ => rfl) (rf82_54 hR) ?_
    refine go_iload_n (x := a1) dX12_sumIsTold_11 rfl ?_
    refine go_iald' (v := (h.1 127 a1.toNatClampNeg)) dX12_sumIsTold_12 sh127 vc.1 rfl ?_
    have vc := vc.2
    refine go_iconst (v := (-1)) dX12_sumIsTold_13 rfl ?_
    refine go_icmp_eq 23 dX12_sumIsTold_14 rfl (fun q => ?_) (fun q => ?_)
    · replace vc := vc.1 q
      refine go_aload_n (x := 82) dX12_sumIsTold_23 rfl ?_
      refine go_getI' (v := (h.1 82 5)) dX12_sumIsTold_24 f12_278 sh82 (fun _ _ => rfl) rfl ?_
      refine go_if_eq 31 dX12_sumIsTold_27 rfl (fun q => ?_) (fun q => ?_)
      · replace vc := vc.1 q
        refine go_aload_n (x := 82) dX12_sumIsTold_31 rfl ?_
        refine go_iload_n (x := a1) dX12_sumIsTold_32 rfl ?_
        refine go_if_ne 40 dX12_sumIsTold_33 rfl (fun q => ?_) (fun q => ?_)
        · replace vc := vc.1 q
          refine go_iconst (v := 0) dX12_sumIsTold_40 rfl ?_
          refine go_putZ dX12_sumIsTold_41 f12_370 sh82 rfl rfl (by decide) ?_
          refine go_aload_n (x := 82) dX12_sumIsTold_44 rfl ?_
          refine go_getR (x := 127) dX12_sumIsTold_45 f12_148 sh82 (fun _ _ => rfl) (rf82_54 hR) ?_
          refine go_iload_n (x := a1) dX12_sumIsTold_48 rfl ?_
          refine go_aload_n (x := 82) dX12_sumIsTold_49 rfl ?_
          refine go_getI' (v := (h.1 82 60)) dX12_sumIsTold_50 f12_374 sh82 (fun _ _ => rfl) rfl ?_
          refine go_iast dX12_sumIsTold_53 sh127 vc.1 ?_
          have vc := vc.2
          show gg p l e s m args below meth c G (d + 1) MX12_sumIsTold Q 54 [some (.ref 82), some (.int a1), some (.int a2)] [] (sI (sI h 82 57 0) 127 a1.toNatClampNeg (h.1 82 60))
          refine go_aload_n (x := 82) dX12_sumIsTold_54 rfl ?_
          refine go_iconst (v := 0) dX12_sumIsTold_55 rfl ?_
          refine go_putI dX12_sumIsTold_56 f12_377 sh82 rfl rfl ?_
          refine go_aload_n (x := 82) dX12_sumIsTold_59 rfl ?_
          refine go_iconst (v := 0) dX12_sumIsTold_60 rfl ?_
          refine go_putI dX12_sumIsTold_61 f12_380 sh82 rfl rfl ?_
          refine go_aload_n (x := 82) dX12_sumIsTold_64 rfl ?_
          refine go_iconst (v := 0) dX12_sumIsTold_65 rfl ?_
          refine go_putI dX12_sumIsTold_66 f12_383 sh82 rfl rfl ?_
          refine go_aload_n (x := 82) dX12_sumIsTold_69 rfl ?_
          refine gvV0 MX12_sumsTold dX12_sumIsTold_70 lX12_386 kX12_sumsTold vX12_sumsTold sh82 (by decide) rfl (Nat.le_of_ble_eq_true rfl) vc ?_
          intro h3 vc
          obtain ⟨hR3, vc⟩ := vc
          replace hR := hR3.trans hR
          refine go_aload_n (x := 82) dX12_sumIsTold_73 rfl ?_
          refine go_getR (x := 128) dX12_sumIsTold_74 f12_151 sh82 (fun _ _ => rfl) (rf82_55 hR) ?_
          refine go_iload_n (x := a1) dX12_sumIsTold_77 rfl ?_
          refine go_aload_n (x := 82) dX12_sumIsTold_78 rfl ?_
          refine go_getI' (v := (h3.1 82 60)) dX12_sumIsTold_79 f12_374 sh82 (fun _ _ => rfl) rfl ?_
          refine go_iast dX12_sumIsTold_82 sh128 vc.1 ?_
          have vc := vc.2
          show gg p l e s m args below meth c G (d + 1) MX12_sumIsTold Q 83 [some (.ref 82), some (.int a1), some (.int a2)] [] (sI h3 128 a1.toNatClampNeg (h3.1 82 60))
          exact go_vret dX12_sumIsTold_83 rfl vc rfl (Nat.le_refl _) (Nat.le_refl _)
        · replace vc := vc.2 q
          refine go_iconst (v := 1) dX12_sumIsTold_36 rfl ?_
          refine go_goto 41 dX12_sumIsTold_37 rfl ?_
          refine go_putZ dX12_sumIsTold_41 f12_370 sh82 rfl rfl (by decide) ?_
          refine go_aload_n (x := 82) dX12_sumIsTold_44 rfl ?_
          refine go_getR (x := 127) dX12_sumIsTold_45 f12_148 sh82 (fun _ _ => rfl) (rf82_54 hR) ?_
          refine go_iload_n (x := a1) dX12_sumIsTold_48 rfl ?_
          refine go_aload_n (x := 82) dX12_sumIsTold_49 rfl ?_
          refine go_getI' (v := (h.1 82 60)) dX12_sumIsTold_50 f12_374 sh82 (fun _ _ => rfl) rfl ?_
          refine go_iast dX12_sumIsTold_53 sh127 vc.1 ?_
          have vc := vc.2
          show gg p l e s m args below meth c G (d + 1) MX12_sumIsTold Q 54 [some (.ref 82), some (.int a1), some (.int a2)] [] (sI (sI h 82 57 1) 127 a1.toNatClampNeg (h.1 82 60))
          refine go_aload_n (x := 82) dX12_sumIsTold_54 rfl ?_
          refine go_iconst (v := 0) dX12_sumIsTold_55 rfl ?_
          refine go_putI dX12_sumIsTold_56 f12_377 sh82 rfl rfl ?_
          refine go_aload_n (x := 82) dX12_sumIsTold_59 rfl ?_
          refine go_iconst (v := 0) dX12_sumIsTold_60 rfl ?_
          refine go_putI dX12_sumIsTold_61 f12_380 sh82 rfl rfl ?_
          refine go_aload_n (x := 82) dX12_sumIsTold_64 rfl ?_
          refine go_iconst (v := 0) dX12_sumIsTold_65 rfl ?_
          refine go_putI dX12_sumIsTold_66 f12_383 sh82 rfl rfl ?_
          refine go_aload_n (x := 82) dX12_sumIsTold_69 rfl ?_
          refine gvV0 MX12_sumsTold dX12_sumIsTold_70 lX12_386 kX12_sumsTold vX12_sumsTold sh82 (by decide) rfl (Nat.le_of_ble_eq_true rfl) vc ?_
          intro h4 vc
          obtain ⟨hR4, vc⟩ := vc
          replace hR := hR4.trans hR
          refine go_aload_n (x := 82) dX12_sumIsTold_73 rfl ?_
          refine go_getR (x := 128) dX12_sumIsTold_74 f12_151 sh82 (fun _ _ => rfl) (rf82_55 hR) ?_
          refine go_iload_n (x := a1) dX12_sumIsTold_77 rfl ?_
          refine go_aload_n (x := 82) dX12_sumIsTold_78 rfl ?_
          refine go_getI' (v := (h4.1 82 60)) dX12_sumIsTold_79 f12_374 sh82 (fun _ _ => rfl) rfl ?_
          refine go_iast dX12_sumIsTold_82 sh128 vc.1 ?_
          have vc := vc.2
          show gg p l e s m args below meth c G (d + 1) MX12_sumIsTold Q 83 [some (.ref 82), some (.int a1), some (.int a2)] [] (sI h4 128 a1.toNatClampNeg (h4.1 82 60))
          exact go_vret dX12_sumIsTold_83 rfl vc rfl (Nat.le_refl _) (Nat.le_refl _)
      · replace vc := vc.2 q
        exact go_vret dX12_sumIsTold_30 rfl vc rfl (Nat.le_refl _) (Nat.le_refl _)
    · replace vc := vc.2 q
      refine go_aload_n (x := 82) dX12_sumIsTold_17 rfl ?_
      refine go_iconst (v := 5) dX12_sumIsTold_18 rfl ?_
      refine go_iload_n (x := a2) dX12_sumIsTold_19 rfl ?_
      refine gvV2 MX12_fail dX12_sumIsTold_20 lX12_308 kX12_fail vX12_fail sh82 (by decide) rfl (Nat.le_of_ble_eq_true rfl) vc ?_
      intro h5 vc
      obtain ⟨hR5, vc⟩ := vc
      replace hR := hR5.trans hR
      refine go_aload_n (x := 82) dX12_sumIsTold_23 rfl ?_
      refine go_getI' (v := (h5.1 82 5)) dX12_sumIsTold_24 f12_278 sh82 (fun _ _ => rfl) rfl ?_
      refine go_if_eq 31 dX12_sumIsTold_27 rfl (fun q => ?_) (fun q => ?_)
      · replace vc := vc.1 q
        refine go_aload_n (x := 82) dX12_sumIsTold_31 rfl ?_
        refine go_iload_n (x := a1) dX12_sumIsTold_32 rfl ?_
        refine go_if_ne 40 dX12_sumIsTold_33 rfl (fun q => ?_) (fun q => ?_)
        · replace vc := vc.1 q
          refine go_iconst (v := 0) dX12_sumIsTold_40 rfl ?_
          refine go_putZ dX12_sumIsTold_41 f12_370 sh82 rfl rfl (by decide) ?_
          refine go_aload_n (x := 82) dX12_sumIsTold_44 rfl ?_
          refine go_getR (x := 127) dX12_sumIsTold_45 f12_148 sh82 (fun _ _ => rfl) (rf82_54 hR) ?_
          refine go_iload_n (x := a1) dX12_sumIsTold_48 rfl ?_
          refine go_aload_n (x := 82) dX12_sumIsTold_49 rfl ?_
          refine go_getI' (v := (h5.1 82 60)) dX12_sumIsTold_50 f12_374 sh82 (fun _ _ => rfl) rfl ?_
          refine go_iast dX12_sumIsTold_53 sh127 vc.1 ?_
          have vc := vc.2
          show gg p l e s m args below meth c G (d + 1) MX12_sumIsTold Q 54 [some (.ref 82), some (.int a1), some (.int a2)] [] (sI (sI h5 82 57 0) 127 a1.toNatClampNeg (h5.1 82 60))
          refine go_aload_n (x := 82) dX12_sumIsTold_54 rfl ?_
          refine go_iconst (v := 0) dX12_sumIsTold_55 rfl ?_
          refine go_putI dX12_sumIsTold_56 f12_377 sh82 rfl rfl ?_
          refine go_aload_n (x := 82) dX12_sumIsTold_59 rfl ?_
          refine go_iconst (v := 0) dX12_sumIsTold_60 rfl ?_
          refine go_putI dX12_sumIsTold_61 f12_380 sh82 rfl rfl ?_
          refine go_aload_n (x := 82) dX12_sumIsTold_64 rfl ?_
          refine go_iconst (v := 0) dX12_sumIsTold_65 rfl ?_
          refine go_putI dX12_sumIsTold_66 f12_383 sh82 rfl rfl ?_
          refine go_aload_n (x := 82) dX12_sumIsTold_69 rfl ?_
          refine gvV0 MX12_sumsTold dX12_sumIsTold_70 lX12_386 kX12_sumsTold vX12_sumsTold sh82 (by decide) rfl (Nat.le_of_ble_eq_true rfl) vc ?_
          intro h6 vc
          obtain ⟨hR6, vc⟩ := vc
          replace hR := hR6.trans hR
          refine go_aload_n (x := 82) dX12_sumIsTold_73 rfl ?_
          refine go_getR (x := 128) dX12_sumIsTold_74 f12_151 sh82 (fun _ _ => rfl) (rf82_55 hR) ?_
          refine go_iload_n (x := a1) dX12_sumIsTold_77 rfl ?_
          refine go_aload_n (x := 82) dX12_sumIsTold_78 rfl ?_
          refine go_getI' (v := (h6.1 82 60)) dX12_sumIsTold_79 f12_374 sh82 (fun _ _ => rfl) rfl ?_
          refine go_iast dX12_sumIsTold_82 sh128 vc.1 ?_
          have vc := vc.2
          show gg p l e s m args below meth c G (d + 1) MX12_sumIsTold Q 83 [some (.ref 82), some (.int a1), some (.int a2)] [] (sI h6 128 a1.toNatClampNeg (h6.1 82 60))
          exact go_vret dX12_sumIsTold_83 rfl vc rfl (Nat.le_refl _) (Nat.le_refl _)
        · replace vc := vc.2 q
          refine go_iconst (v := 1) dX12_sumIsTold_36 rfl ?_
          refine go_goto 41 dX12_sumIsTold_37 rfl ?_
          refine go_putZ dX12_sumIsTold_41 f12_370 sh82 rfl rfl (by decide) ?_
          refine go_aload_n (x := 82) dX12_sumIsTold_44 rfl ?_
          refine go_getR (x := 127) dX12_sumIsTold_45 f12_148 sh82 (fun _ _ => rfl) (rf82_54 hR) ?_
          refine go_iload_n (x := a1) dX12_sumIsTold_48 rfl ?_
          refine go_aload_n (x := 82) dX12_sumIsTold_49 rfl ?_
          refine go_getI' (v := (h5.1 82 60)) dX12_sumIsTold_50 f12_374 sh82 (fun _ _ => rfl) rfl ?_
          refine go_iast dX12_sumIsTold_53 sh127 vc.1 ?_
          have vc := vc.2
          show gg p l e s m args below meth c G (d + 1) MX12_sumIsTold Q 54 [some (.ref 82), some (.int a1), some (.int a2)] [] (sI (sI h5 82 57 1) 127 a1.toNatClampNeg (h5.1 82 60))
          refine go_aload_n (x := 82) dX12_sumIsTold_54 rfl ?_
          refine go_iconst (v := 0) dX12_sumIsTold_55 rfl ?_
          refine go_putI dX12_sumIsTold_56 f12_377 sh82 rfl rfl ?_
          refine go_aload_n (x := 82) dX12_sumIsTold_59 rfl ?_
          refine go_iconst (v := 0) dX12_sumIsTold_60 rfl ?_
          refine go_putI dX12_sumIsTold_61 f12_380 sh82 rfl rfl ?_
          refine go_aload_n (x := 82) dX12_sumIsTold_64 rfl ?_
          refine go_iconst (v := 0) dX12_sumIsTold_65 rfl ?_
          refine go_putI dX12_sumIsTold_66 f12_383 sh82 rfl rfl ?_
          refine go_aload_n (x := 82) dX12_sumIsTold_69 rfl ?_
          refine gvV0 MX12_sumsTold dX12_sumIsTold_70 lX12_386 kX12_sumsTold vX12_sumsTold sh82 (by decide) rfl (Nat.le_of_ble_eq_true rfl) vc ?_
          intro h7 vc
          obtain ⟨hR7, vc⟩ := vc
          replace hR := hR7.trans hR
          refine go_aload_n (x := 82) dX12_sumIsTold_73 rfl ?_
          refine go_getR (x := 128) dX12_sumIsTold_74 f12_151 sh82 (fun _ _ => rfl) (rf82_55 hR) ?_
          refine go_iload_n (x := a1) dX12_sumIsTold_77 rfl ?_
          refine go_aload_n (x := 82) dX12_sumIsTold_78 rfl ?_
          refine go_getI' (v := (h7.1 82 60)) dX12_sumIsTold_79 f12_374 sh82 (fun _ _ => rfl) rfl ?_
          refine go_iast dX12_sumIsTold_82 sh128 vc.1 ?_
          have vc := vc.2
          show gg p l e s m args below meth c G (d + 1) MX12_sumIsTold Q 83 [some (.ref 82), some (.int a1), some (.int a2)] [] (sI h7 128 a1.toNatClampNeg (h7.1 82 60))
          exact go_vret dX12_sumIsTold_83 rfl vc rfl (Nat.le_refl _) (Nat.le_refl _)
      · replace vc := vc.2 q
        exact go_vret dX12_sumIsTold_30 rfl vc rfl (Nat.le_refl _) (Nat.le_refl _)
set_option maxRecDepth 20000 in
theorem wX12_statementTold_0 {p : Program} {l : Launch} {e : Env} {s : State} {m : MethodId} {args : Array Value} {below : List Frame} {meth : Method} {c : Code} {G : gG} {d : Nat} {Q : Option Value → gH → Prop} {h : gH} {lk sp : Nat} {cd : Option Nat}  (hR : h.2.2 = gRF lk sp cd) (hlk : lk = 30 ∨ lk = 67) (hsp : sp = 30 ∨ sp = 67)  (vc : ((¬ (h.1 82 56) = 60 → gC l G d MX12_takes [.ref 82, .ref 86] h (rI fun v1 h1 => h1.2.2 = (h).2.2 ∧ ((v1 = 0 → gC l G d MX12_takes [.ref 82, .ref 87] h1 (rI fun v2 h2 => h2.2.2 = (h1).2.2 ∧ ((v2 = 0 → gC l G d MX12_takes [.ref 82, .ref 90] h2 (rI fun v3 h3 => h3.2.2 = (h2).2.2 ∧ ((v3 = 0 → gC l G d MX12_takes [.ref 82, .ref 92] h3 (rI fun v4 h4 => h4.2.2 = (h3).2.2 ∧ ((v4 = 0 → gC l G d MX12_takes [.ref 82, .ref 93] h4 (rI fun v5 h5 => h5.2.2 = (h4).2.2 ∧ ((v5 = 0 → gC l G d MX12_takes [.ref 82, .ref 94] h5 (rI fun v6 h6 => h6.2.2 = (h5).2.2 ∧ ((v6 = 0 → gC l G d MX12_takes [.ref 82, .ref 95] h6 (rI fun v7 h7 => h7.2.2 = (h6).2.2 ∧ ((v7 = 0 → gC l G d MX12_takes [.ref 82, .ref 96] h7 (rI fun v8 h8 => h8.2.2 = (h7).2.2 ∧ ((v8 = 0 → gC l G d MX12_takes [.ref 82, .ref 97] h8 (rI fun v9 h9 => h9.2.2 = (h8).2.2 ∧ ((v9 = 0 → gC l G d MX12_takes [.ref 82, .ref 98] h9 (rI fun v10 h10 => h10.2.2 = (h9).2.2 ∧ ((v10 = 0 → gC l G d MX12_takes [.ref 82, .ref 99] h10 (rI fun v11 h11 => h11.2.2 = (h10).2.2 ∧ ((v11 = 0 → gC l G d MX12_asks [.ref 82, .ref 100] h11 (rV fun h12 => h12.2.2 = (h11).2.2 ∧ gC l G d MX12_number [.ref 82, .int 1, .int 99] h12 (rI fun v13 h13 => h13.2.2 = (h12).2.2 ∧ gg p l e s m args below meth c G (d + 1) MX12_statementTold Q 257 [some (.ref 82), some (.int (h.1 82 2))] [] (sI h13 126 0 v13)))) ∧ (¬ v11 = 0 → gC l G d MX12_sumIsTold [.ref 82, .int 2, .int (h.1 82 2)] h11 (rV fun h14 => h14.2.2 = (h11).2.2 ∧ gg p l e s m args below meth c G (d + 1) MX12_statementTold Q 257 [some (.ref 82), some (.int (h.1 82 2))] [] h14))))) ∧ (¬ v10 = 0 → gC l G d MX12_sumIsTold [.ref 82, .int 1, .int (h.1 82 2)] h10 (rV fun h15 => h15.2.2 = (h10).2.2 ∧ gg p l e s m args below meth c G (d + 1) MX12_statementTold Q 257 [some (.ref 82), some (.int (h.1 82 2))] [] h15))))) ∧ (¬ v9 = 0 → gC l G d MX12_sumIsTold [.ref 82, .int 0, .int (h.1 82 2)] h9 (rV fun h16 => h16.2.2 = (h9).2.2 ∧ gg p l e s m args below meth c G (d + 1) MX12_statementTold Q 257 [some (.ref 82), some (.int (h.1 82 2))] [] h16))))) ∧ (¬ v8 = 0 → gC l G d MX12_skyTold [.ref 82, .int 3, .int (h.1 82 2)] h8 (rV fun h17 => h17.2.2 = (h8).2.2 ∧ gg p l e s m args below meth c G (d + 1) MX12_statementTold Q 257 [some (.ref 82), some (.int (h.1 82 2))] [] h17))))) ∧ (¬ v7 = 0 → gC l G d MX12_skyTold [.ref 82, .int 2, .int (h.1 82 2)] h7 (rV fun h18 => h18.2.2 = (h7).2.2 ∧ gg p l e s m args below meth c G (d + 1) MX12_statementTold Q 257 [some (.ref 82), some (.int (h.1 82 2))] [] h18))))) ∧ (¬ v6 = 0 → gC l G d MX12_skyTold [.ref 82, .int 1, .int (h.1 82 2)] h6 (rV fun h19 => h19.2.2 = (h6).2.2 ∧ gg p l e s m args below meth c G (d + 1) MX12_statementTold Q 257 [some (.ref 82), some (.int (h.1 82 2))] [] h19))))) ∧ (¬ v5 = 0 → gC l G d MX12_skyTold [.ref 82, .int 0, .int (h.1 82 2)] h5 (rV fun h20 => h20.2.2 = (h5).2.2 ∧ gg p l e s m args below meth c G (d + 1) MX12_statementTold Q 257 [some (.ref 82), some (.int (h.1 82 2))] [] h20))))) ∧ (¬ v4 = 0 → gC l G d MX12_likesTold [.ref 82] h4 (rV fun h21 => h21.2.2 = (h4).2.2 ∧ gg p l e s m args below meth c G (d + 1) MX12_statementTold Q 257 [some (.ref 82), some (.int (h.1 82 2))] [] h21))))) ∧ (¬ v3 = 0 → gC l G d MX12_handTold [.ref 82, .int (h.1 82 2)] h3 (rV fun h22 => h22.2.2 = (h3).2.2 ∧ gg p l e s m args below meth c G (d + 1) MX12_statementTold Q 257 [some (.ref 82), some (.int (h.1 82 2))] [] h22))))) ∧ (¬ v2 = 0 → gC l G d MX12_boatTold [.ref 82, .int (h.1 82 2)] h2 (rV fun h23 => h23.2.2 = (h2).2.2 ∧ gg p l e s m args below meth c G (d + 1) MX12_statementTold Q 257 [some (.ref 82), some (.int (h.1 82 2))] [] h23))))) ∧ (¬ v1 = 0 → gC l G d MX12_rowTold [.ref 82, .int (h.1 82 2)] h1 (rV fun h24 => h24.2.2 = (h1).2.2 ∧ gg p l e s m args below meth c G (d + 1) MX12_statementTold Q 257 [some (.ref 82), some (.int (h.1 82 2))] [] h24))))) ∧ ((h.1 82 56) = 60 → gC l G d MX12_fail [.ref 82, .int 5, .int (h.1 82 2)] h (rV fun h25 => h25.2.2 = (h).2.2 ∧ Q none h25)))) : gg p l e s m args below meth c G (d + 1) MX12_statementTold Q 0 [some (.ref 82), none] [] h := by
  refine go_aload_n (x := 82) dX12_statementTold_0 rfl ?_
  refine go_getI' (v := (h.1 82 2)) dX12_statementTold_1 f12_284 sh82 (fun _ _ => rfl) rfl ?_
  refine go_istore_n dX12_statementTold_4 (Nat.le_of_ble_eq_true rfl) ?_
  show gg p l e s m args below meth c G (d + 1) MX12_statementTold Q 5 [some (.ref 82), some (.int (h.1 82 2))] [] h
  refine go_aload_n (x := 82) dX12_statementTold_5 rfl ?_
  refine go_getI' (v := (h.1 82 56)) dX12_statementTold_6 f12_389 sh82 (fun _ _ => rfl) rfl ?_
  refine go_bipush (v := 60) dX12_statementTold_9 rfl ?_
  refine go_icmp_ne 21 dX12_statementTold_11 rfl (fun q => ?_) (fun q => ?_)
  · replace vc := vc.1 q
    refine go_aload_n (x := 82) dX12_statementTold_21 rfl ?_
    refine go_aload_n (x := 82) dX12_statementTold_22 rfl ?_
    refine go_getR (x := 86) dX12_statementTold_23 f12_24 sh82 (fun _ _ => rfl) (rf82_12 hR) ?_
    refine gvI1 MX12_takes dX12_statementTold_26 lX12_305 kX12_takes vX12_takes sh82 (by decide) rfl (Nat.le_of_ble_eq_true rfl) vc ?_
    intro v1 h1 vc
    obtain ⟨hR1, vc⟩ := vc
    replace hR := hR1.trans hR
    refine go_if_eq 40 dX12_statementTold_29 rfl (fun q => ?_) (fun q => ?_)
    · replace vc := vc.1 q
      refine go_aload_n (x := 82) dX12_statementTold_40 rfl ?_
      refine go_aload_n (x := 82) dX12_statementTold_41 rfl ?_
      refine go_getR (x := 87) dX12_statementTold_42 f12_27 sh82 (fun _ _ => rfl) (rf82_13 hR) ?_
      refine gvI1 MX12_takes dX12_statementTold_45 lX12_305 kX12_takes vX12_takes sh82 (by decide) rfl (Nat.le_of_ble_eq_true rfl) vc ?_
      intro v2 h2 vc
      obtain ⟨hR2, vc⟩ := vc
      replace hR := hR2.trans hR
      refine go_if_eq 59 dX12_statementTold_48 rfl (fun q => ?_) (fun q => ?_)
      · replace vc := vc.1 q
        refine go_aload_n (x := 82) dX12_statementTold_59 rfl ?_
        refine go_aload_n (x := 82) dX12_statementTold_60 rfl ?_
        refine go_getR (x := 90) dX12_statementTold_61 f12_36 sh82 (fun _ _ => rfl) (rf82_16 hR) ?_
        refine gvI1 MX12_takes dX12_statementTold_64 lX12_305 kX12_takes vX12_takes sh82 (by decide) rfl (Nat.le_of_ble_eq_true rfl) vc ?_
        intro v3 h3 vc
        obtain ⟨hR3, vc⟩ := vc
        replace hR := hR3.trans hR
        refine go_if_eq 78 dX12_statementTold_67 rfl (fun q => ?_) (fun q => ?_)
        · replace vc := vc.1 q
          refine go_aload_n (x := 82) dX12_statementTold_78 rfl ?_
          refine go_aload_n (x := 82) dX12_statementTold_79 rfl ?_
          refine go_getR (x := 92) dX12_statementTold_80 f12_42 sh82 (fun _ _ => rfl) (rf82_18 hR) ?_
          refine gvI1 MX12_takes dX12_statementTold_83 lX12_305 kX12_takes vX12_takes sh82 (by decide) rfl (Nat.le_of_ble_eq_true rfl) vc ?_
          intro v4 h4 vc
          obtain ⟨hR4, vc⟩ := vc
          replace hR := hR4.trans hR
          refine go_if_eq 96 dX12_statementTold_86 rfl (fun q => ?_) (fun q => ?_)
          · replace vc := vc.1 q
            refine go_aload_n (x := 82) dX12_statementTold_96 rfl ?_
            refine go_aload_n (x := 82) dX12_statementTold_97 rfl ?_
            refine go_getR (x := 93) dX12_statementTold_98 f12_45 sh82 (fun _ _ => rfl) (rf82_19 hR) ?_
            refine gvI1 MX12_takes dX12_statementTold_101 lX12_305 kX12_takes vX12_takes sh82 (by decide) rfl (Nat.le_of_ble_eq_true rfl) vc ?_
            intro v5 h5 vc
            obtain ⟨hR5, vc⟩ := vc
            replace hR := hR5.trans hR
            refine go_if_eq 116 dX12_statementTold_104 rfl (fun q => ?_) (fun q => ?_)
            · replace vc := vc.1 q
              refine go_aload_n (x := 82) dX12_statementTold_116 rfl ?_
              refine go_aload_n (x := 82) dX12_statementTold_117 rfl ?_
              refine go_getR (x := 94) dX12_statementTold_118 f12_48 sh82 (fun _ _ => rfl) (rf82_20 hR) ?_
              refine gvI1 MX12_takes dX12_statementTold_121 lX12_305 kX12_takes vX12_takes sh82 (by decide) rfl (Nat.le_of_ble_eq_true rfl) vc ?_
              intro v6 h6 vc
              obtain ⟨hR6, vc⟩ := vc
              replace hR := hR6.trans hR
              refine go_if_eq 136 dX12_statementTold_124 rfl (fun q => ?_) (fun q => ?_)
              · replace vc := vc.1 q
                refine go_aload_n (x := 82) dX12_statementTold_136 rfl ?_
                refine go_aload_n (x := 82) dX12_statementTold_137 rfl ?_
                refine go_getR (x := 95) dX12_statementTold_138 f12_51 sh82 (fun _ _ => rfl) (rf82_21 hR) ?_
                refine gvI1 MX12_takes dX12_statementTold_141 lX12_305 kX12_takes vX12_takes sh82 (by decide) rfl (Nat.le_of_ble_eq_true rfl) vc ?_
                intro v7 h7 vc
                obtain ⟨hR7, vc⟩ := vc
                replace hR := hR7.trans hR
                refine go_if_eq 156 dX12_statementTold_144 rfl (fun q => ?_) (fun q => ?_)
                · replace vc := vc.1 q
                  refine go_aload_n (x := 82) dX12_statementTold_156 rfl ?_
                  refine go_aload_n (x := 82) dX12_statementTold_157 rfl ?_
                  refine go_getR (x := 96) dX12_statementTold_158 f12_54 sh82 (fun _ _ => rfl) (rf82_22 hR) ?_
                  refine gvI1 MX12_takes dX12_statementTold_161 lX12_305 kX12_takes vX12_takes sh82 (by decide) rfl (Nat.le_of_ble_eq_true rfl) vc ?_
                  intro v8 h8 vc
                  obtain ⟨hR8, vc⟩ := vc
                  replace hR := hR8.trans hR
                  refine go_if_eq 176 dX12_statementTold_164 rfl (fun q => ?_) (fun q => ?_)
                  · replace vc := vc.1 q
                    refine go_aload_n (x := 82) dX12_statementTold_176 rfl ?_
                    refine go_aload_n (x := 82) dX12_statementTold_177 rfl ?_
                    refine go_getR (x := 97) dX12_statementTold_178 f12_57 sh82 (fun _ _ => rfl) (rf82_23 hR) ?_
                    refine gvI1 MX12_takes dX12_statementTold_181 lX12_305 kX12_takes vX12_takes sh82 (by decide) rfl (Nat.le_of_ble_eq_true rfl) vc ?_
                    intro v9 h9 vc
                    obtain ⟨hR9, vc⟩ := vc
                    replace hR := hR9.trans hR
                    refine go_if_eq 196 dX12_statementTold_184 rfl (fun q => ?_) (fun q => ?_)
                    · replace vc := vc.1 q
                      refine go_aload_n (x := 82) dX12_statementTold_196 rfl ?_
                      refine go_aload_n (x := 82) dX12_statementTold_197 rfl ?_
                      refine go_getR (x := 98) dX12_statementTold_198 f12_60 sh82 (fun _ _ => rfl) (rf82_24 hR) ?_
                      refine gvI1 MX12_takes dX12_statementTold_201 lX12_305 kX12_takes vX12_takes sh82 (by decide) rfl (Nat.le_of_ble_eq_true rfl) vc ?_
                      intro v10 h10 vc
                      obtain ⟨hR10, vc⟩ := vc
                      replace hR := hR10.trans hR
                      refine go_if_eq 216 dX12_statementTold_204 rfl (fun q => ?_) (fun q => ?_)
                      · replace vc := vc.1 q
                        refine go_aload_n (x := 82) dX12_statementTold_216 rfl ?_
                        refine go_aload_n (x := 82) dX12_statementTold_217 rfl ?_
                        refine go_getR (x := 99) dX12_statementTold_218 f12_63 sh82 (fun _ _ => rfl) (rf82_25 hR) ?_
                        refine gvI1 MX12_takes dX12_statementTold_221 lX12_305 kX12_takes vX12_takes sh82 (by decide) rfl (Nat.le_of_ble_eq_true rfl) vc ?_
                        intro v11 h11 vc
                        obtain ⟨hR11, vc⟩ := vc
                        replace hR := hR11.trans hR
                        refine go_if_eq 236 dX12_statementTold_224 rfl (fun q => ?_) (fun q => ?_)
                        · replace vc := vc.1 q
                          refine go_aload_n (x := 82) dX12_statementTold_236 rfl ?_
                          refine go_aload_n (x := 82) dX12_statementTold_237 rfl ?_
                          refine go_getR (x := 100) dX12_statementTold_238 f12_66 sh82 (fun _ _ => rfl) (rf82_26 hR) ?_
                          refine gvV1 MX12_asks dX12_statementTold_241 lX12_344 kX12_asks vX12_asks sh82 (by decide) rfl (Nat.le_of_ble_eq_true rfl) vc ?_
                          intro h12 vc
                          obtain ⟨hR12, vc⟩ := vc
                          replace hR := hR12.trans hR
                          refine go_aload_n (x := 82) dX12_statementTold_244 rfl ?_
                          refine go_getR (x := 126) dX12_statementTold_245 f12_145 sh82 (fun _ _ => rfl) (rf82_53 hR) ?_
                          refine go_iconst (v := 0) dX12_statementTold_248 rfl ?_
                          refine go_aload_n (x := 82) dX12_statementTold_249 rfl ?_
                          refine go_iconst (v := 1) dX12_statementTold_250 rfl ?_
                          refine go_bipush (v := 99) dX12_statementTold_251 rfl ?_
                          refine gvI2 MX12_number dX12_statementTold_253 lX12_348 kX12_number vX12_number sh82 (by decide) rfl (Nat.le_of_ble_eq_true rfl) vc ?_
                          intro v13 h13 vc
                          obtain ⟨hR13, vc⟩ := vc
                          replace hR := hR13.trans hR
                          refine go_iast dX12_statementTold_256 sh126 (by unfold vp_in; decide) ?_
                          exact vc
                        · replace vc := vc.2 q
                          refine go_aload_n (x := 82) dX12_statementTold_227 rfl ?_
                          refine go_iconst (v := 2) dX12_statementTold_228 rfl ?_
                          refine go_iload_n (x := (h.1 82 2)) dX12_statementTold_229 rfl ?_
                          refine gvV2 MX12_sumIsTold dX12_statementTold_230 lX12_407 kX12_sumIsTold vX12_sumIsTold sh82 (by decide) rfl (Nat.le_of_ble_eq_true rfl) vc ?_
                          intro h14 vc
                          obtain ⟨hR14, vc⟩ := vc
                          replace hR := hR14.trans hR
                          refine go_goto 257 dX12_statementTold_233 rfl ?_
                          exact vc
                      · replace vc := vc.2 q
                        refine go_aload_n (x := 82) dX12_statementTold_207 rfl ?_
                        refine go_iconst (v := 1) dX12_statementTold_208 rfl ?_
                        refine go_iload_n (x := (h.1 82 2)) dX12_statementTold_209 rfl ?_
                        refine gvV2 MX12_sumIsTold dX12_statementTold_210 lX12_407 kX12_sumIsTold vX12_sumIsTold sh82 (by decide) rfl (Nat.le_of_ble_eq_true rfl) vc ?_
                        intro h15 vc
                        obtain ⟨hR15, vc⟩ := vc
                        replace hR := hR15.trans hR
                        refine go_goto 257 dX12_statementTold_213 rfl ?_
                        exact vc
                    · replace vc := vc.2 q
                      refine go_aload_n (x := 82) dX12_statementTold_187 rfl ?_
                      refine go_iconst (v := 0) dX12_statementTold_188 rfl ?_
                      refine go_iload_n (x := (h.1 82 2)) dX12_statementTold_189 rfl ?_
                      refine gvV2 MX12_sumIsTold dX12_statementTold_190 lX12_407 kX12_sumIsTold vX12_sumIsTold sh82 (by decide) rfl (Nat.le_of_ble_eq_true rfl) vc ?_
                      intro h16 vc
                      obtain ⟨hR16, vc⟩ := vc
                      replace hR := hR16.trans hR
                      refine go_goto 257 dX12_statementTold_193 rfl ?_
                      exact vc
                  · replace vc := vc.2 q
                    refine go_aload_n (x := 82) dX12_statementTold_167 rfl ?_
                    refine go_iconst (v := 3) dX12_statementTold_168 rfl ?_
                    refine go_iload_n (x := (h.1 82 2)) dX12_statementTold_169 rfl ?_
                    refine gvV2 MX12_skyTold dX12_statementTold_170 lX12_404 kX12_skyTold vX12_skyTold sh82 (by decide) rfl (Nat.le_of_ble_eq_true rfl) vc ?_
                    intro h17 vc
                    obtain ⟨hR17, vc⟩ := vc
                    replace hR := hR17.trans hR
                    refine go_goto 257 dX12_statementTold_173 rfl ?_
                    exact vc
                · replace vc := vc.2 q
                  refine go_aload_n (x := 82) dX12_statementTold_147 rfl ?_
                  refine go_iconst (v := 2) dX12_statementTold_148 rfl ?_
                  refine go_iload_n (x := (h.1 82 2)) dX12_statementTold_149 rfl ?_
                  refine gvV2 MX12_skyTold dX12_statementTold_150 lX12_404 kX12_skyTold vX12_skyTold sh82 (by decide) rfl (Nat.le_of_ble_eq_true rfl) vc ?_
                  intro h18 vc
                  obtain ⟨hR18, vc⟩ := vc
                  replace hR := hR18.trans hR
                  refine go_goto 257 dX12_statementTold_153 rfl ?_
                  exact vc
              · replace vc := vc.2 q
                refine go_aload_n (x := 82) dX12_statementTold_127 rfl ?_
                refine go_iconst (v := 1) dX12_statementTold_128 rfl ?_
                refine go_iload_n (x := (h.1 82 2)) dX12_statementTold_129 rfl ?_
                refine gvV2 MX12_skyTold dX12_statementTold_130 lX12_404 kX12_skyTold vX12_skyTold sh82 (by decide) rfl (Nat.le_of_ble_eq_true rfl) vc ?_
                intro h19 vc
                obtain ⟨hR19, vc⟩ := vc
                replace hR := hR19.trans hR
                refine go_goto 257 dX12_statementTold_133 rfl ?_
                exact vc
            · replace vc := vc.2 q
              refine go_aload_n (x := 82) dX12_statementTold_107 rfl ?_
              refine go_iconst (v := 0) dX12_statementTold_108 rfl ?_
              refine go_iload_n (x := (h.1 82 2)) dX12_statementTold_109 rfl ?_
              refine gvV2 MX12_skyTold dX12_statementTold_110 lX12_404 kX12_skyTold vX12_skyTold sh82 (by decide) rfl (Nat.le_of_ble_eq_true rfl) vc ?_
              intro h20 vc
              obtain ⟨hR20, vc⟩ := vc
              replace hR := hR20.trans hR
              refine go_goto 257 dX12_statementTold_113 rfl ?_
              exact vc
          · replace vc := vc.2 q
            refine go_aload_n (x := 82) dX12_statementTold_89 rfl ?_
            refine gvV0 MX12_likesTold dX12_statementTold_90 lX12_401 kX12_likesTold vX12_likesTold sh82 (by decide) rfl (Nat.le_of_ble_eq_true rfl) vc ?_
            intro h21 vc
            obtain ⟨hR21, vc⟩ := vc
            replace hR := hR21.trans hR
            refine go_goto 257 dX12_statementTold_93 rfl ?_
            exact vc
        · replace vc := vc.2 q
          refine go_aload_n (x := 82) dX12_statementTold_70 rfl ?_
          refine go_iload_n (x := (h.1 82 2)) dX12_statementTold_71 rfl ?_
          refine gvV1 MX12_handTold dX12_statementTold_72 lX12_398 kX12_handTold vX12_handTold sh82 (by decide) rfl (Nat.le_of_ble_eq_true rfl) vc ?_
          intro h22 vc
          obtain ⟨hR22, vc⟩ := vc
          replace hR := hR22.trans hR
          refine go_goto 257 dX12_statementTold_75 rfl ?_
          exact vc
      · replace vc := vc.2 q
        refine go_aload_n (x := 82) dX12_statementTold_51 rfl ?_
        refine go_iload_n (x := (h.1 82 2)) dX12_statementTold_52 rfl ?_
        refine gvV1 MX12_boatTold dX12_statementTold_53 lX12_395 kX12_boatTold vX12_boatTold sh82 (by decide) rfl (Nat.le_of_ble_eq_true rfl) vc ?_
        intro h23 vc
        obtain ⟨hR23, vc⟩ := vc
        replace hR := hR23.trans hR
        refine go_goto 257 dX12_statementTold_56 rfl ?_
        exact vc
    · replace vc := vc.2 q
      refine go_aload_n (x := 82) dX12_statementTold_32 rfl ?_
      refine go_iload_n (x := (h.1 82 2)) dX12_statementTold_33 rfl ?_
      refine gvV1 MX12_rowTold dX12_statementTold_34 lX12_392 kX12_rowTold vX12_rowTold sh82 (by decide) rfl (Nat.le_of_ble_eq_true rfl) vc ?_
      intro h24 vc
      obtain ⟨hR24, vc⟩ := vc
      replace hR := hR24.trans hR
      refine go_goto 257 dX12_statementTold_37 rfl ?_
      exact vc
  · replace vc := vc.2 q
    refine go_aload_n (x := 82) dX12_statementTold_14 rfl ?_
    refine go_iconst (v := 5) dX12_statementTold_15 rfl ?_
    refine go_iload_n (x := (h.1 82 2)) dX12_statementTold_16 rfl ?_
    refine gvV2 MX12_fail dX12_statementTold_17 lX12_308 kX12_fail vX12_fail sh82 (by decide) rfl (Nat.le_of_ble_eq_true rfl) vc ?_
    intro h25 vc
    obtain ⟨hR25, vc⟩ := vc
    replace hR := hR25.trans hR
    exact go_vret dX12_statementTold_20 rfl vc rfl (Nat.le_refl _) (Nat.le_refl _)
set_option maxRecDepth 20000 in
theorem wX12_statementTold_257 {p : Program} {l : Launch} {e : Env} {s : State} {m : MethodId} {args : Array Value} {below : List Frame} {meth : Method} {c : Code} {G : gG} {d : Nat} {Q : Option Value → gH → Prop} {h : gH} {lk sp : Nat} {cd : Option Nat} {x1 : Int32} (hR : h.2.2 = gRF lk sp cd) (hlk : lk = 30 ∨ lk = 67) (hsp : sp = 30 ∨ sp = 67)  (vc : gC l G d MX12_asksSign [.ref 82, .int 59] h (rV fun h1 => h1.2.2 = (h).2.2 ∧ Q none (sI h1 82 56 ((h1.1 82 56) + 1)))) : gg p l e s m args below meth c G (d + 1) MX12_statementTold Q 257 [some (.ref 82), some (.int x1)] [] h := by
  refine go_aload_n (x := 82) dX12_statementTold_257 rfl ?_
  refine go_bipush (v := 59) dX12_statementTold_258 rfl ?_
  refine gvV1 MX12_asksSign dX12_statementTold_260 lX12_352 kX12_asksSign vX12_asksSign sh82 (by decide) rfl (Nat.le_of_ble_eq_true rfl) vc ?_
  intro h1 vc
  obtain ⟨hR1, vc⟩ := vc
  replace hR := hR1.trans hR
  refine go_aload_n (x := 82) dX12_statementTold_263 rfl ?_
  refine go_dup dX12_statementTold_264 rfl ?_
  refine go_getI' (v := (h1.1 82 56)) dX12_statementTold_265 f12_389 sh82 (fun _ _ => rfl) rfl ?_
  refine go_iconst (v := 1) dX12_statementTold_268 rfl ?_
  refine go_iadd dX12_statementTold_269 ?_
  refine go_putI dX12_statementTold_270 f12_389 sh82 rfl rfl ?_
  exact go_vret dX12_statementTold_273 rfl vc rfl (Nat.le_refl _) (Nat.le_refl _)
set_option maxRecDepth 20000 in
theorem wX12_lake_0 {p : Program} {l : Launch} {e : Env} {s : State} {m : MethodId} {args : Array Value} {below : List Frame} {meth : Method} {c : Code} {G : gG} {d : Nat} {Q : Option Value → gH → Prop} {h : gH} {lk sp : Nat} {cd : Option Nat}  (hR : h.2.2 = gRF lk sp cd) (hlk : lk = 30 ∨ lk = 67) (hsp : sp = 30 ∨ sp = 67)  (vc : gg p l e s m args below meth c G (d + 1) MX12_lake Q 40 [some (.ref 82), some (.int 0)] [] (sI (sI (sI (sI (sI (sI (sI h 82 3 (h.1 82 1)) 82 1 0) 82 2 0) 82 4 (-1)) 82 5 0) 82 6 (-1)) 82 60 0)) : gg p l e s m args below meth c G (d + 1) MX12_lake Q 0 [some (.ref 82), none] [] h := by
  refine go_aload_n (x := 82) dX12_lake_0 rfl ?_
  refine go_aload_n (x := 82) dX12_lake_1 rfl ?_
  refine go_getI' (v := (h.1 82 1)) dX12_lake_2 f12_275 sh82 (fun _ _ => rfl) rfl ?_
  refine go_putI dX12_lake_5 f12_287 sh82 rfl rfl ?_
  refine go_aload_n (x := 82) dX12_lake_8 rfl ?_
  refine go_iconst (v := 0) dX12_lake_9 rfl ?_
  refine go_putI dX12_lake_10 f12_275 sh82 rfl rfl ?_
  refine go_aload_n (x := 82) dX12_lake_13 rfl ?_
  refine go_iconst (v := 0) dX12_lake_14 rfl ?_
  refine go_putI dX12_lake_15 f12_284 sh82 rfl rfl ?_
  refine go_aload_n (x := 82) dX12_lake_18 rfl ?_
  refine go_iconst (v := (-1)) dX12_lake_19 rfl ?_
  refine go_putI dX12_lake_20 f12_298 sh82 rfl rfl ?_
  refine go_aload_n (x := 82) dX12_lake_23 rfl ?_
  refine go_iconst (v := 0) dX12_lake_24 rfl ?_
  refine go_putI dX12_lake_25 f12_278 sh82 rfl rfl ?_
  refine go_aload_n (x := 82) dX12_lake_28 rfl ?_
  refine go_iconst (v := (-1)) dX12_lake_29 rfl ?_
  refine go_putI dX12_lake_30 f12_281 sh82 rfl rfl ?_
  refine go_aload_n (x := 82) dX12_lake_33 rfl ?_
  refine go_iconst (v := 0) dX12_lake_34 rfl ?_
  refine go_putI dX12_lake_35 f12_374 sh82 rfl rfl ?_
  refine go_iconst (v := 0) dX12_lake_38 rfl ?_
  refine go_istore_n dX12_lake_39 (Nat.le_of_ble_eq_true rfl) ?_
  show gg p l e s m args below meth c G (d + 1) MX12_lake Q 40 [some (.ref 82), some (.int 0)] [] (sI (sI (sI (sI (sI (sI (sI h 82 3 (h.1 82 1)) 82 1 0) 82 2 0) 82 4 (-1)) 82 5 0) 82 6 (-1)) 82 60 0)
  exact vc
set_option maxRecDepth 20000 in
theorem wX12_lake_40 {p : Program} {l : Launch} {e : Env} {s : State} {m : MethodId} {args : Array Value} {below : List Frame} {meth : Method} {c : Code} {G : gG} {d : Nat} {Q : Option Value → gH → Prop} {h : gH} {lk sp : Nat} {cd : Option Nat} {x1 : Int32} (hR : h.2.2 = gRF lk sp cd) (hlk : lk = 30 ∨ lk = 67) (hsp : sp = 30 ∨ sp = 67)  (vc : ((5 ≤ x1 → gg p l e s m args below meth c G (d + 1) MX12_lake Q 60 [some (.ref 82), some (.int 0)] [] h) ∧ (¬ 5 ≤ x1 → (vp_in x1 10 ∧ gg p l e s m args below meth c G (d + 1) MX12_lake Q 40 [some (.ref 82), some (.int (x1 + 1))] [] (sI h 119 x1.toNatClampNeg 0))))) : gg p l e s m args below meth c G (d + 1) MX12_lake Q 40 [some (.ref 82), some (.int x1)] [] h := by
  refine go_iload_n (x := x1) dX12_lake_40 rfl ?_
  refine go_iconst (v := 5) dX12_lake_41 rfl ?_
  refine go_icmp_ge 58 dX12_lake_42 rfl (fun q => ?_) (fun q => ?_)
  · replace vc := vc.1 q
    refine go_iconst (v := 0) dX12_lake_58 rfl ?_
    refine go_istore_n dX12_lake_59 (Nat.le_of_ble_eq_true rfl) ?_
    show gg p l e s m args below meth c G (d + 1) MX12_lake Q 60 [some (.ref 82), some (.int 0)] [] h
    exact vc
  · replace vc := vc.2 q
    refine go_aload_n (x := 82) dX12_lake_45 rfl ?_
    refine go_getR (x := 119) dX12_lake_46 f12_123 sh82 (fun _ _ => rfl) (rf82_46 hR) ?_
    refine go_iload_n (x := x1) dX12_lake_49 rfl ?_
    refine go_iconst (v := 0) dX12_lake_50 rfl ?_
    refine go_iast dX12_lake_51 sh119 vc.1 ?_
    have vc := vc.2
    show gg p l e s m args below meth c G (d + 1) MX12_lake Q 52 [some (.ref 82), some (.int x1)] [] (sI h 119 x1.toNatClampNeg 0)
    refine go_iinc (x := x1) dX12_lake_52 rfl ?_
    show gg p l e s m args below meth c G (d + 1) MX12_lake Q 55 [some (.ref 82), some (.int (x1 + 1))] [] (sI h 119 x1.toNatClampNeg 0)
    refine go_goto 40 dX12_lake_55 rfl ?_
    exact vc
set_option maxRecDepth 20000 in
theorem wX12_lake_60 {p : Program} {l : Launch} {e : Env} {s : State} {m : MethodId} {args : Array Value} {below : List Frame} {meth : Method} {c : Code} {G : gG} {d : Nat} {Q : Option Value → gH → Prop} {h : gH} {lk sp : Nat} {cd : Option Nat} {x1 : Int32} (hR : h.2.2 = gRF lk sp cd) (hlk : lk = 30 ∨ lk = 67) (hsp : sp = 30 ∨ sp = 67)  (vc : ((36 ≤ x1 → gg p l e s m args below meth c G (d + 1) MX12_lake Q 81 [some (.ref 82), some (.int 0)] [] h) ∧ (¬ 36 ≤ x1 → (vp_in x1 72 ∧ gg p l e s m args below meth c G (d + 1) MX12_lake Q 60 [some (.ref 82), some (.int (x1 + 1))] [] (sI h 124 x1.toNatClampNeg 0))))) : gg p l e s m args below meth c G (d + 1) MX12_lake Q 60 [some (.ref 82), some (.int x1)] [] h := by
  refine go_iload_n (x := x1) dX12_lake_60 rfl ?_
  refine go_bipush (v := 36) dX12_lake_61 rfl ?_
  refine go_icmp_ge 79 dX12_lake_63 rfl (fun q => ?_) (fun q => ?_)
  · replace vc := vc.1 q
    refine go_iconst (v := 0) dX12_lake_79 rfl ?_
    refine go_istore_n dX12_lake_80 (Nat.le_of_ble_eq_true rfl) ?_
    show gg p l e s m args below meth c G (d + 1) MX12_lake Q 81 [some (.ref 82), some (.int 0)] [] h
    exact vc
  · replace vc := vc.2 q
    refine go_aload_n (x := 82) dX12_lake_66 rfl ?_
    refine go_getR (x := 124) dX12_lake_67 f12_139 sh82 (fun _ _ => rfl) (rf82_51 hR) ?_
    refine go_iload_n (x := x1) dX12_lake_70 rfl ?_
    refine go_iconst (v := 0) dX12_lake_71 rfl ?_
    refine go_iast dX12_lake_72 sh124 vc.1 ?_
    have vc := vc.2
    show gg p l e s m args below meth c G (d + 1) MX12_lake Q 73 [some (.ref 82), some (.int x1)] [] (sI h 124 x1.toNatClampNeg 0)
    refine go_iinc (x := x1) dX12_lake_73 rfl ?_
    show gg p l e s m args below meth c G (d + 1) MX12_lake Q 76 [some (.ref 82), some (.int (x1 + 1))] [] (sI h 124 x1.toNatClampNeg 0)
    refine go_goto 60 dX12_lake_76 rfl ?_
    exact vc
set_option maxRecDepth 20000 in
theorem wX12_lake_81 {p : Program} {l : Launch} {e : Env} {s : State} {m : MethodId} {args : Array Value} {below : List Frame} {meth : Method} {c : Code} {G : gG} {d : Nat} {Q : Option Value → gH → Prop} {h : gH} {lk sp : Nat} {cd : Option Nat} {x1 : Int32} (hR : h.2.2 = gRF lk sp cd) (hlk : lk = 30 ∨ lk = 67) (hsp : sp = 30 ∨ sp = 67)  (vc : ((3 ≤ x1 → gC l G d MX12_lakeTold [.ref 82] (sI h 126 0 5) (rV fun h1 => h1.2.2 = ((sI h 126 0 5)).2.2 ∧ gg p l e s m args below meth c G (d + 1) MX12_lake Q 115 [some (.ref 82), some (.int x1)] [] (sI h1 82 56 1))) ∧ (¬ 3 ≤ x1 → (vp_in x1 6 ∧ gg p l e s m args below meth c G (d + 1) MX12_lake Q 81 [some (.ref 82), some (.int (x1 + 1))] [] (sI h 127 x1.toNatClampNeg (-1)))))) : gg p l e s m args below meth c G (d + 1) MX12_lake Q 81 [some (.ref 82), some (.int x1)] [] h := by
  refine go_iload_n (x := x1) dX12_lake_81 rfl ?_
  refine go_iconst (v := 3) dX12_lake_82 rfl ?_
  refine go_icmp_ge 99 dX12_lake_83 rfl (fun q => ?_) (fun q => ?_)
  · replace vc := vc.1 q
    refine go_aload_n (x := 82) dX12_lake_99 rfl ?_
    refine go_getR (x := 126) dX12_lake_100 f12_145 sh82 (fun _ _ => rfl) (rf82_53 hR) ?_
    refine go_iconst (v := 0) dX12_lake_103 rfl ?_
    refine go_iconst (v := 5) dX12_lake_104 rfl ?_
    refine go_iast dX12_lake_105 sh126 (by unfold vp_in; decide) ?_
    refine go_aload_n (x := 82) dX12_lake_106 rfl ?_
    refine gvV0 MX12_lakeTold dX12_lake_107 lX12_410 kX12_lakeTold vX12_lakeTold sh82 (by decide) rfl (Nat.le_of_ble_eq_true rfl) vc ?_
    intro h1 vc
    obtain ⟨hR1, vc⟩ := vc
    replace hR := hR1.trans hR
    refine go_aload_n (x := 82) dX12_lake_110 rfl ?_
    refine go_iconst (v := 1) dX12_lake_111 rfl ?_
    refine go_putI dX12_lake_112 f12_389 sh82 rfl rfl ?_
    exact vc
  · replace vc := vc.2 q
    refine go_aload_n (x := 82) dX12_lake_86 rfl ?_
    refine go_getR (x := 127) dX12_lake_87 f12_148 sh82 (fun _ _ => rfl) (rf82_54 hR) ?_
    refine go_iload_n (x := x1) dX12_lake_90 rfl ?_
    refine go_iconst (v := (-1)) dX12_lake_91 rfl ?_
    refine go_iast dX12_lake_92 sh127 vc.1 ?_
    have vc := vc.2
    show gg p l e s m args below meth c G (d + 1) MX12_lake Q 93 [some (.ref 82), some (.int x1)] [] (sI h 127 x1.toNatClampNeg (-1))
    refine go_iinc (x := x1) dX12_lake_93 rfl ?_
    show gg p l e s m args below meth c G (d + 1) MX12_lake Q 96 [some (.ref 82), some (.int (x1 + 1))] [] (sI h 127 x1.toNatClampNeg (-1))
    refine go_goto 81 dX12_lake_96 rfl ?_
    exact vc
set_option maxRecDepth 20000 in
theorem wX12_lake_115 {p : Program} {l : Launch} {e : Env} {s : State} {m : MethodId} {args : Array Value} {below : List Frame} {meth : Method} {c : Code} {G : gG} {d : Nat} {Q : Option Value → gH → Prop} {h : gH} {lk sp : Nat} {cd : Option Nat} {x1 : Int32} (hR : h.2.2 = gRF lk sp cd) (hlk : lk = 30 ∨ lk = 67) (hsp : sp = 30 ∨ sp = 67)  (vc : ((¬ (h.1 82 5) = 0 → (((h.1 82 5) = 0 → gC l G d MX12_stands [.ref 82] (sI (sI h 82 7 (h.1 82 5)) 82 8 (h.1 82 6)) (rV fun h1 => h1.2.2 = ((sI (sI h 82 7 (h.1 82 5)) 82 8 (h.1 82 6))).2.2 ∧ Q (some (.int (h1.1 82 56))) h1)) ∧ (¬ (h.1 82 5) = 0 → Q (some (.int (-1))) (sI (sI (sI h 82 7 (h.1 82 5)) 82 8 (h.1 82 6)) 84 1 ((h.1 84 1) + 1))))) ∧ ((h.1 82 5) = 0 → gC l G d MX12_look [.ref 82] h (rI fun v2 h2 => h2.2.2 = (h).2.2 ∧ ((v2 = (-1) → (((h2.1 82 5) = 0 → gC l G d MX12_stands [.ref 82] (sI (sI h2 82 7 (h2.1 82 5)) 82 8 (h2.1 82 6)) (rV fun h3 => h3.2.2 = ((sI (sI h2 82 7 (h2.1 82 5)) 82 8 (h2.1 82 6))).2.2 ∧ Q (some (.int (h3.1 82 56))) h3)) ∧ (¬ (h2.1 82 5) = 0 → Q (some (.int (-1))) (sI (sI (sI h2 82 7 (h2.1 82 5)) 82 8 (h2.1 82 6)) 84 1 ((h2.1 84 1) + 1))))) ∧ (¬ v2 = (-1) → gC l G d MX12_statementTold [.ref 82] h2 (rV fun h4 => h4.2.2 = (h2).2.2 ∧ gg p l e s m args below meth c G (d + 1) MX12_lake Q 115 [some (.ref 82), some (.int x1)] [] h4))))))) : gg p l e s m args below meth c G (d + 1) MX12_lake Q 115 [some (.ref 82), some (.int x1)] [] h := by
  refine go_aload_n (x := 82) dX12_lake_115 rfl ?_
  refine go_getI' (v := (h.1 82 5)) dX12_lake_116 f12_278 sh82 (fun _ _ => rfl) rfl ?_
  refine go_if_ne 137 dX12_lake_119 rfl (fun q => ?_) (fun q => ?_)
  · replace vc := vc.1 q
    refine go_aload_n (x := 82) dX12_lake_137 rfl ?_
    refine go_aload_n (x := 82) dX12_lake_138 rfl ?_
    refine go_getI' (v := (h.1 82 5)) dX12_lake_139 f12_278 sh82 (fun _ _ => rfl) rfl ?_
    refine go_putI dX12_lake_142 f12_416 sh82 rfl rfl ?_
    refine go_aload_n (x := 82) dX12_lake_145 rfl ?_
    refine go_aload_n (x := 82) dX12_lake_146 rfl ?_
    refine go_getI' (v := (h.1 82 6)) dX12_lake_147 f12_281 sh82 (fun _ _ => rfl) rfl ?_
    refine go_putI dX12_lake_150 f12_13 sh82 rfl rfl ?_
    refine go_aload_n (x := 82) dX12_lake_153 rfl ?_
    refine go_getI' (v := (h.1 82 5)) dX12_lake_154 f12_278 sh82 (fun _ _ => rfl) rfl ?_
    refine go_if_eq 172 dX12_lake_157 rfl (fun q => ?_) (fun q => ?_)
    · replace vc := vc.1 q
      refine go_aload_n (x := 82) dX12_lake_172 rfl ?_
      refine gvV0 MX12_stands dX12_lake_173 lX12_419 kX12_stands vX12_stands sh82 (by decide) rfl (Nat.le_of_ble_eq_true rfl) vc ?_
      intro h1 vc
      obtain ⟨hR1, vc⟩ := vc
      replace hR := hR1.trans hR
      refine go_aload_n (x := 82) dX12_lake_176 rfl ?_
      refine go_getI' (v := (h1.1 82 56)) dX12_lake_177 f12_389 sh82 (fun _ _ => rfl) rfl ?_
      exact go_iret dX12_lake_180 rfl vc rfl (Nat.le_refl _) (Nat.le_refl _)
    · replace vc := vc.2 q
      refine go_aload_n (x := 82) dX12_lake_160 rfl ?_
      refine go_getR (x := 84) dX12_lake_161 f12_17 sh82 (fun _ _ => rfl) (rf82_9 hR) ?_
      refine go_iconst (v := 1) dX12_lake_164 rfl ?_
      refine go_dup2 dX12_lake_165 rfl rfl ?_
      refine go_iald' (v := (h.1 84 1)) dX12_lake_166 sh84 (by unfold vp_in; decide) rfl ?_
      refine go_iconst (v := 1) dX12_lake_167 rfl ?_
      refine go_iadd dX12_lake_168 ?_
      refine go_iast dX12_lake_169 sh84 (by unfold vp_in; decide) ?_
      refine go_iconst (v := (-1)) dX12_lake_170 rfl ?_
      exact go_iret dX12_lake_171 rfl vc rfl (Nat.le_refl _) (Nat.le_refl _)
  · replace vc := vc.2 q
    refine go_aload_n (x := 82) dX12_lake_122 rfl ?_
    refine gvI0 MX12_look dX12_lake_123 lX12_290 kX12_look vX12_look sh82 (by decide) rfl (Nat.le_of_ble_eq_true rfl) vc ?_
    intro v2 h2 vc
    obtain ⟨hR2, vc⟩ := vc
    replace hR := hR2.trans hR
    refine go_iconst (v := (-1)) dX12_lake_126 rfl ?_
    refine go_icmp_eq 137 dX12_lake_127 rfl (fun q => ?_) (fun q => ?_)
    · replace vc := vc.1 q
      refine go_aload_n (x := 82) dX12_lake_137 rfl ?_
      refine go_aload_n (x := 82) dX12_lake_138 rfl ?_
      refine go_getI' (v := (h2.1 82 5)) dX12_lake_139 f12_278 sh82 (fun _ _ => rfl) rfl ?_
      refine go_putI dX12_lake_142 f12_416 sh82 rfl rfl ?_
      refine go_aload_n (x := 82) dX12_lake_145 rfl ?_
      refine go_aload_n (x := 82) dX12_lake_146 rfl ?_
      refine go_getI' (v := (h2.1 82 6)) dX12_lake_147 f12_281 sh82 (fun _ _ => rfl) rfl ?_
      refine go_putI dX12_lake_150 f12_13 sh82 rfl rfl ?_
      refine go_aload_n (x := 82) dX12_lake_153 rfl ?_
      refine go_getI' (v := (h2.1 82 5)) dX12_lake_154 f12_278 sh82 (fun _ _ => rfl) rfl ?_
      refine go_if_eq 172 dX12_lake_157 rfl (fun q => ?_) (fun q => ?_)
      · replace vc := vc.1 q
        refine go_aload_n (x := 82) dX12_lake_172 rfl ?_
        refine gvV0 MX12_stands dX12_lake_173 lX12_419 kX12_stands vX12_stands sh82 (by decide) rfl (Nat.le_of_ble_eq_true rfl) vc ?_
        intro h3 vc
        obtain ⟨hR3, vc⟩ := vc
        replace hR := hR3.trans hR
        refine go_aload_n (x := 82) dX12_lake_176 rfl ?_
        refine go_getI' (v := (h3.1 82 56)) dX12_lake_177 f12_389 sh82 (fun _ _ => rfl) rfl ?_
        exact go_iret dX12_lake_180 rfl vc rfl (Nat.le_refl _) (Nat.le_refl _)
      · replace vc := vc.2 q
        refine go_aload_n (x := 82) dX12_lake_160 rfl ?_
        refine go_getR (x := 84) dX12_lake_161 f12_17 sh82 (fun _ _ => rfl) (rf82_9 hR) ?_
        refine go_iconst (v := 1) dX12_lake_164 rfl ?_
        refine go_dup2 dX12_lake_165 rfl rfl ?_
        refine go_iald' (v := (h2.1 84 1)) dX12_lake_166 sh84 (by unfold vp_in; decide) rfl ?_
        refine go_iconst (v := 1) dX12_lake_167 rfl ?_
        refine go_iadd dX12_lake_168 ?_
        refine go_iast dX12_lake_169 sh84 (by unfold vp_in; decide) ?_
        refine go_iconst (v := (-1)) dX12_lake_170 rfl ?_
        exact go_iret dX12_lake_171 rfl vc rfl (Nat.le_refl _) (Nat.le_refl _)
    · replace vc := vc.2 q
      refine go_aload_n (x := 82) dX12_lake_130 rfl ?_
      refine gvV0 MX12_statementTold dX12_lake_131 lX12_413 kX12_statementTold vX12_statementTold sh82 (by decide) rfl (Nat.le_of_ble_eq_true rfl) vc ?_
      intro h4 vc
      obtain ⟨hR4, vc⟩ := vc
      replace hR := hR4.trans hR
      refine go_goto 115 dX12_lake_134 rfl ?_
      exact vc
