set_option maxRecDepth 20000 in
theorem wX12_sumIsTold_0 {p : Program} {l : Launch} {e : Env} {s : State} {m : MethodId} {args : Array Value} {below : List Frame} {meth : Method} {c : Code} {G : gG} {d : Nat} {Q : Option Value → gH → Prop} {h : gH} {lk sp : Nat} {cd : Option Nat} {a1 : Int32} {a2 : Int32} (hR : h.2.2 = gRF lk sp cd) (hlk : lk = 30 ∨ lk = 67) (hsp : sp = 30 ∨ sp = 67)  (vc : ((¬ (h.1 82 5) = 0 → (((h.1 82 5) = 0 → ((¬ a1 = 0 → (vp_in a1 6 ∧ gC l G d MX12_sumsTold [.ref 82] (sI (sI (sI (sI (sI h 82 57 0) 127 a1.toNatClampNeg (h.1 82 60)) 82 62 0) 82 63 0) 82 64 0) (rV fun h1 => h1.2.2 = ((sI (sI (sI (sI (sI h 82 57 0) 127 a1.toNatClampNeg (h.1 82 60)) 82 62 0) 82 63 0) 82 64 0)).2.2 ∧ (vp_in a1 6 ∧ Q none (sI h1 128 a1.toNatClampNeg (h1.1 82 60)))))) ∧ (a1 = 0 → (vp_in a1 6 ∧ gC l G d MX12_sumsTold [.ref 82] (sI (sI (sI (sI (sI h 82 57 1) 127 a1.toNatClampNeg (h.1 82 60)) 82 62 0) 82 63 0) 82 64 0) (rV fun h2 => h2.2.2 = ((sI (sI (sI (sI (sI h 82 57 1) 127 a1.toNatClampNeg (h.1 82 60)) 82 62 0) 82 63 0) 82 64 0)).2.2 ∧ (vp_in a1 6 ∧ Q none (sI h2 128 a1.toNatClampNeg (h2.1 82 60)))))))) ∧ (¬ (h.1 82 5) = 0 → Q none h))) ∧ ((h.1 82 5) = 0 → (vp_in a1 6 ∧ (((h.1 127 a1.toNatClampNeg) = (-1) → (((h.1 82 5) = 0 → ((¬ a1 = 0 → (vp_in a1 6 ∧ gC l G d MX12_sumsTold [.ref 82] (sI (sI (sI (sI (sI h 82 57 0) 127 a1.toNatClampNeg (h.1 82 60)) 82 62 0) 82 63 0) 82 64 0) (rV fun h3 => h3.2.2 = ((sI (sI (sI (sI (sI h 82 57 0) 127 a1.toNatClampNeg (h.1 82 60)) 82 62 0) 82 63 0) 82 64 0)).2.2 ∧ (vp_in a1 6 ∧ Q none (sI h3 128 a1.toNatClampNeg (h3.1 82 60)))))) ∧ (a1 = 0 → (vp_in a1 6 ∧ gC l G d MX12_sumsTold [.ref 82] (sI (sI (sI (sI (sI h 82 57 1) 127 a1.toNatClampNeg (h.1 82 60)) 82 62 0) 82 63 0) 82 64 0) (rV fun h4 => h4.2.2 = ((sI (sI (sI (sI (sI h 82 57 1) 127 a1.toNatClampNeg (h.1 82 60)) 82 62 0) 82 63 0) 82 64 0)).2.2 ∧ (vp_in a1 6 ∧ Q none (sI h4 128 a1.toNatClampNeg (h4.1 82 60)))))))) ∧ (¬ (h.1 82 5) = 0 → Q none h))) ∧ (¬ (h.1 127 a1.toNatClampNeg) = (-1) → gC l G d MX12_fail [.ref 82, .int 5, .int a2] h (rV fun h5 => h5.2.2 = (h).2.2 ∧ (((h5.1 82 5) = 0 → ((¬ a1 = 0 → (vp_in a1 6 ∧ gC l G d MX12_sumsTold [.ref 82] (sI (sI (sI (sI (sI h5 82 57 0) 127 a1.toNatClampNeg (h5.1 82 60)) 82 62 0) 82 63 0) 82 64 0) (rV fun h6 => h6.2.2 = ((sI (sI (sI (sI (sI h5 82 57 0) 127 a1.toNatClampNeg (h5.1 82 60)) 82 62 0) 82 63 0) 82 64 0)).2.2 ∧ (vp_in a1 6 ∧ Q none (sI h6 128 a1.toNatClampNeg (h6.1 82 60)))))) ∧ (a1 = 0 → (vp_in a1 6 ∧ gC l G d MX12_sumsTold [.ref 82] (sI (sI (sI (sI (sI h5 82 57 1) 127 a1.toNatClampNeg (h5.1 82 60)) 82 62 0) 82 63 0) 82 64 0) (rV fun h7 => h7.2.2 = ((sI (sI (sI (sI (sI h5 82 57 1) 127 a1.toNatClampNeg (h5.1 82 60)) 82 62 0) 82 63 0) 82 64 0)).2.2 ∧ (vp_in a1 6 ∧ Q none (sI h7 128 a1.toNatClampNeg (h7.1 82 60)))))))) ∧ (¬ (h5.1 82 5) = 0 → Q none h5))))))))) : gg p l e s m args below meth c G (d + 1) MX12_sumIsTold Q 0 [some (.ref 82), some (.int a1), some (.int a2)] [] h := by
  refine go_aload_n (x := 82) dX12_sumIsTold_0 rfl ?_
  refine go_getI' (v := (h.1 82 5)) dX12_sumIsTold_1 f12_278 sh82 (fun _ _ => rfl) rfl ?_
  refine go_if_ne 23 dX12_sumIsTold_4 rfl (fun q => ?_) (fun q => ?_)
  · replace vc := vc.1 q
    refine go_aload_n (x := 82) dX12_sumIsTold_23 rfl ?_
    refine go_getI' (v := (h.1 82 5)) dX12_sumIsTold_24 f12_278 sh82 (fun _ _ => rfl) rfl ?_
    refine go_if_eq 31 dX12_sumIsTold_27 rfl (fun q => ?_) (fun q => ?_)
    · replace vc := vc.1 q
      refine go_aload_n (x := 82) dX12_sumIsTold_31 rfl ?_
      refine go_iload_n (x := a1) dX12_sumIsTold_32 rfl ?_
      refine go_if_ne 40 dX12_sumIsTold_33 rfl (fun q => ?_) (fun q => ?_)
      · replace vc := vc.1 q
        refine go_iconst (v := 0) dX12_sumIsTold_40 rfl ?_
        refine go_putZ dX12_sumIsTold_41 f12_370 sh82 rfl rfl (by decide) ?_
        refine go_aload_n (x := 82) dX12_sumIsTold_44 rfl ?_
        refine go_getR (x := 127) dX12_sumIsTold_45 f12_148 sh82 (fun _ _ => rfl) (rf82_54 hR) ?_
        refine go_iload_n (x := a1) dX12_sumIsTold_48 rfl ?_
        refine go_aload_n (x := 82) dX12_sumIsTold_49 rfl ?_
        refine go_getI' (v := (h.1 82 60)) dX12_sumIsTold_50 f12_374 sh82 (fun _ _ => rfl) rfl ?_
        refine go_iast dX12_sumIsTold_53 sh127 vc.1 ?_
        have vc := vc.2
        show gg p l e s m args below meth c G (d + 1) MX12_sumIsTold Q 54 [some (.ref 82), some (.int a1), some (.int a2)] [] (sI (sI h 82 57 0) 127 a1.toNatClampNeg (h.1 82 60))
        refine go_aload_n (x := 82) dX12_sumIsTold_54 rfl ?_
        refine go_iconst (v := 0) dX12_sumIsTold_55 rfl ?_
        refine go_putI dX12_sumIsTold_56 f12_377 sh82 rfl rfl ?_
        refine go_aload_n (x := 82) dX12_sumIsTold_59 rfl ?_
        refine go_iconst (v := 0) dX12_sumIsTold_60 rfl ?_
        refine go_putI dX12_sumIsTold_61 f12_380 sh82 rfl rfl ?_
        refine go_aload_n (x := 82) dX12_sumIsTold_64 rfl ?_
        refine go_iconst (v := 0) dX12_sumIsTold_65 rfl ?_
        refine go_putI dX12_sumIsTold_66 f12_383 sh82 rfl rfl ?_
        refine go_aload_n (x := 82) dX12_sumIsTold_69 rfl ?_
        refine gvV0 MX12_sumsTold dX12_sumIsTold_70 lX12_386 kX12_sumsTold vX12_sumsTold sh82 (by decide) rfl (Nat.le_of_ble_eq_true rfl) vc ?_
        intro h1 vc
        obtain ⟨hR1, vc⟩ := vc
        replace hR := hR1.trans hR
        refine go_aload_n (x := 82) dX12_sumIsTold_73 rfl ?_
        refine go_getR (x := 128) dX12_sumIsTold_74 f12_151 sh82 (fun _ _ => rfl) (rf82_55 hR) ?_
        refine go_iload_n (x := a1) dX12_sumIsTold_77 rfl ?_
        refine go_aload_n (x := 82) dX12_sumIsTold_78 rfl ?_
        refine go_getI' (v := (h1.1 82 60)) dX12_sumIsTold_79 f12_374 sh82 (fun _ _ => rfl) rfl ?_
        refine go_iast dX12_sumIsTold_82 sh128 vc.1 ?_
        have vc := vc.2
        show gg p l e s m args below meth c G (d + 1) MX12_sumIsTold Q 83 [some (.ref 82), some (.int a1), some (.int a2)] [] (sI h1 128 a1.toNatClampNeg (h1.1 82 60))
        exact go_vret dX12_sumIsTold_83 rfl vc rfl (Nat.le_refl _) (Nat.le_refl _)
      · replace vc := vc.2 q
        refine go_iconst (v := 1) dX12_sumIsTold_36 rfl ?_
        refine go_goto 41 dX12_sumIsTold_37 rfl ?_
        refine go_putZ dX12_sumIsTold_41 f12_370 sh82 rfl rfl (by decide) ?_
        refine go_aload_n (x := 82) dX12_sumIsTold_44 rfl ?_
        refine go_getR (x := 127) dX12_sumIsTold_45 f12_148 sh82 (fun _ _ => rfl) (rf82_54 hR) ?_
        refine go_iload_n (x := a1) dX12_sumIsTold_48 rfl ?_
        refine go_aload_n (x := 82) dX12_sumIsTold_49 rfl ?_
        refine go_getI' (v := (h.1 82 60)) dX12_sumIsTold_50 f12_374 sh82 (fun _ _ => rfl) rfl ?_
        refine go_iast dX12_sumIsTold_53 sh127 vc.1 ?_
        have vc := vc.2
        show gg p l e s m args below meth c G (d + 1) MX12_sumIsTold Q 54 [some (.ref 82), some (.int a1), some (.int a2)] [] (sI (sI h 82 57 1) 127 a1.toNatClampNeg (h.1 82 60))
        refine go_aload_n (x := 82) dX12_sumIsTold_54 rfl ?_
        refine go_iconst (v := 0) dX12_sumIsTold_55 rfl ?_
        refine go_putI dX12_sumIsTold_56 f12_377 sh82 rfl rfl ?_
        refine go_aload_n (x := 82) dX12_sumIsTold_59 rfl ?_
        refine go_iconst (v := 0) dX12_sumIsTold_60 rfl ?_
        refine go_putI dX12_sumIsTold_61 f12_380 sh82 rfl rfl ?_
        refine go_aload_n (x := 82) dX12_sumIsTold_64 rfl ?_
        refine go_iconst (v := 0) dX12_sumIsTold_65 rfl ?_
        refine go_putI dX12_sumIsTold_66 f12_383 sh82 rfl rfl ?_
        refine go_aload_n (x := 82) dX12_sumIsTold_69 rfl ?_
        refine gvV0 MX12_sumsTold dX12_sumIsTold_70 lX12_386 kX12_sumsTold vX12_sumsTold sh82 (by decide) rfl (Nat.le_of_ble_eq_true rfl) vc ?_
        intro h2 vc
        obtain ⟨hR2, vc⟩ := vc
        replace hR := hR2.trans hR
        refine go_aload_n (x := 82) dX12_sumIsTold_73 rfl ?_
        refine go_getR (x := 128) dX12_sumIsTold_74 f12_151 sh82 (fun _ _ => rfl) (rf82_55 hR) ?_
        refine go_iload_n (x := a1) dX12_sumIsTold_77 rfl ?_
        refine go_aload_n (x := 82) dX12_sumIsTold_78 rfl ?_
        refine go_getI' (v := (h2.1 82 60)) dX12_sumIsTold_79 f12_374 sh82 (fun _ _ => rfl) rfl ?_
        refine go_iast dX12_sumIsTold_82 sh128 vc.1 ?_
        have vc := vc.2
        show gg p l e s m args below meth c G (d + 1) MX12_sumIsTold Q 83 [some (.ref 82), some (.int a1), some (.int a2)] [] (sI h2 128 a1.toNatClampNeg (h2.1 82 60))
        exact go_vret dX12_sumIsTold_83 rfl vc rfl (Nat.le_refl _) (Nat.le_refl _)
    · replace vc := vc.2 q
      exact go_vret dX12_sumIsTold_30 rfl vc rfl (Nat.le_refl _) (Nat.le_refl _)
  · replace vc := vc.2 q
    refine go_aload_n (x := 82) dX12_sumIsTold_7 rfl ?_
    refine go_getR (x := 127) dX12_sumIsTold_8 f12_148 sh82 (fun _ _ => rfl) (rf82_54 hR) ?_
    refine go_iload_n (x := a1) dX12_sumIsTold_11 rfl ?_
    refine go_iald' (v := (h.1 127 a1.toNatClampNeg)) dX12_sumIsTold_12 sh127 vc.1 rfl ?_
    have vc := vc.2
    refine go_iconst (v := (-1)) dX12_sumIsTold_13 rfl ?_
    refine go_icmp_eq 23 dX12_sumIsTold_14 rfl (fun q => ?_) (fun q => ?_)
    · replace vc := vc.1 q
      refine go_aload_n (x := 82) dX12_sumIsTold_23 rfl ?_
      refine go_getI' (v := (h.1 82 5)) dX12_sumIsTold_24 f12_278 sh82 (fun _ _ => rfl) rfl ?_
      refine go_if_eq 31 dX12_sumIsTold_27 rfl (fun q => ?_) (fun q => ?_)
      · replace vc := vc.1 q
        refine go_aload_n (x := 82) dX12_sumIsTold_31 rfl ?_
        refine go_iload_n (x := a1) dX12_sumIsTold_32 rfl ?_
        refine go_if_ne 40 dX12_sumIsTold_33 rfl (fun q => ?_) (fun q => ?_)
        · replace vc := vc.1 q
          refine go_iconst (v := 0) dX12_sumIsTold_40 rfl ?_
          refine go_putZ dX12_sumIsTold_41 f12_370 sh82 rfl rfl (by decide) ?_
          refine go_aload_n (x := 82) dX12_sumIsTold_44 rfl ?_
          refine go_getR (x := 127) dX12_sumIsTold_45 f12_148 sh82 (fun _ _ => rfl) (rf82_54 hR) ?_
          refine go_iload_n (x := a1) dX12_sumIsTold_48 rfl ?_
          refine go_aload_n (x := 82) dX12_sumIsTold_49 rfl ?_
          refine go_getI' (v := (h.1 82 60)) dX12_sumIsTold_50 f12_374 sh82 (fun _ _ => rfl) rfl ?_
          refine go_iast dX12_sumIsTold_53 sh127 vc.1 ?_
          have vc := vc.2
          show gg p l e s m args below meth c G (d + 1) MX12_sumIsTold Q 54 [some (.ref 82), some (.int a1), some (.int a2)] [] (sI (sI h 82 57 0) 127 a1.toNatClampNeg (h.1 82 60))
          refine go_aload_n (x := 82) dX12_sumIsTold_54 rfl ?_
          refine go_iconst (v := 0) dX12_sumIsTold_55 rfl ?_
          refine go_putI dX12_sumIsTold_56 f12_377 sh82 rfl rfl ?_
          refine go_aload_n (x := 82) dX12_sumIsTold_59 rfl ?_
          refine go_iconst (v := 0) dX12_sumIsTold_60 rfl ?_
          refine go_putI dX12_sumIsTold_61 f12_380 sh82 rfl rfl ?_
          refine go_aload_n (x := 82) dX12_sumIsTold_64 rfl ?_
          refine go_iconst (v := 0) dX12_sumIsTold_65 rfl ?_
          refine go_putI dX12_sumIsTold_66 f12_383 sh82 rfl rfl ?_
          refine go_aload_n (x := 82) dX12_sumIsTold_69 rfl ?_
          refine gvV0 MX12_sumsTold dX12_sumIsTold_70 lX12_386 kX12_sumsTold vX12_sumsTold sh82 (by decide) rfl (Nat.le_of_ble_eq_true rfl) vc ?_
          intro h3 vc
          obtain ⟨hR3, vc⟩ := vc
          replace hR := hR3.trans hR
          refine go_aload_n (x := 82) dX12_sumIsTold_73 rfl ?_
          refine go_getR (x := 128) dX12_sumIsTold_74 f12_151 sh82 (fun _ _ => rfl) (rf82_55 hR) ?_
          refine go_iload_n (x := a1) dX12_sumIsTold_77 rfl ?_
          refine go_aload_n (x := 82) dX12_sumIsTold_78 rfl ?_
          refine go_getI' (v := (h3.1 82 60)) dX12_sumIsTold_79 f12_374 sh82 (fun _ _ => rfl) rfl ?_
          refine go_iast dX12_sumIsTold_82 sh128 vc.1 ?_
          have vc := vc.2
          show gg p l e s m args below meth c G (d + 1) MX12_sumIsTold Q 83 [some (.ref 82), some (.int a1), some (.int a2)] [] (sI h3 128 a1.toNatClampNeg (h3.1 82 60))
          exact go_vret dX12_sumIsTold_83 rfl vc rfl (Nat.le_refl _) (Nat.le_refl _)
        · replace vc := vc.2 q
          refine go_iconst (v := 1) dX12_sumIsTold_36 rfl ?_
          refine go_goto 41 dX12_sumIsTold_37 rfl ?_
          refine go_putZ dX12_sumIsTold_41 f12_370 sh82 rfl rfl (by decide) ?_
          refine go_aload_n (x := 82) dX12_sumIsTold_44 rfl ?_
          refine go_getR (x := 127) dX12_sumIsTold_45 f12_148 sh82 (fun _ _ => rfl) (rf82_54 hR) ?_
          refine go_iload_n (x := a1) dX12_sumIsTold_48 rfl ?_
          refine go_aload_n (x := 82) dX12_sumIsTold_49 rfl ?_
          refine go_getI' (v := (h.1 82 60)) dX12_sumIsTold_50 f12_374 sh82 (fun _ _ => rfl) rfl ?_
          refine go_iast dX12_sumIsTold_53 sh127 vc.1 ?_
          have vc := vc.2
          show gg p l e s m args below meth c G (d + 1) MX12_sumIsTold Q 54 [some (.ref 82), some (.int a1), some (.int a2)] [] (sI (sI h 82 57 1) 127 a1.toNatClampNeg (h.1 82 60))
          refine go_aload_n (x := 82) dX12_sumIsTold_54 rfl ?_
          refine go_iconst (v := 0) dX12_sumIsTold_55 rfl ?_
          refine go_putI dX12_sumIsTold_56 f12_377 sh82 rfl rfl ?_
          refine go_aload_n (x := 82) dX12_sumIsTold_59 rfl ?_
          refine go_iconst (v := 0) dX12_sumIsTold_60 rfl ?_
          refine go_putI dX12_sumIsTold_61 f12_380 sh82 rfl rfl ?_
          refine go_aload_n (x := 82) dX12_sumIsTold_64 rfl ?_
          refine go_iconst (v := 0) dX12_sumIsTold_65 rfl ?_
          refine go_putI dX12_sumIsTold_66 f12_383 sh82 rfl rfl ?_
          refine go_aload_n (x := 82) dX12_sumIsTold_69 rfl ?_
          refine gvV0 MX12_sumsTold dX12_sumIsTold_70 lX12_386 kX12_sumsTold vX12_sumsTold sh82 (by decide) rfl (Nat.le_of_ble_eq_true rfl) vc ?_
          intro h4 vc
          obtain ⟨hR4, vc⟩ := vc
          replace hR := hR4.trans hR
          refine go_aload_n (x := 82) dX12_sumIsTold_73 rfl ?_
          refine go_getR (x := 128) dX12_sumIsTold_74 f12_151 sh82 (fun _ _ => rfl) (rf82_55 hR) ?_
          refine go_iload_n (x := a1) dX12_sumIsTold_77 rfl ?_
          refine go_aload_n (x := 82) dX12_sumIsTold_78 rfl ?_
          refine go_getI' (v := (h4.1 82 60)) dX12_sumIsTold_79 f12_374 sh82 (fun _ _ => rfl) rfl ?_
          refine go_iast dX12_sumIsTold_82 sh128 vc.1 ?_
          have vc := vc.2
          show gg p l e s m args below meth c G (d + 1) MX12_sumIsTold Q 83 [some (.ref 82), some (.int a1), some (.int a2)] [] (sI h4 128 a1.toNatClampNeg (h4.1 82 60))
          exact go_vret dX12_sumIsTold_83 rfl vc rfl (Nat.le_refl _) (Nat.le_refl _)
      · replace vc := vc.2 q
        exact go_vret dX12_sumIsTold_30 rfl vc rfl (Nat.le_refl _) (Nat.le_refl _)
    · replace vc := vc.2 q
      refine go_aload_n (x := 82) dX12_sumIsTold_17 rfl ?_
      refine go_iconst (v := 5) dX12_sumIsTold_18 rfl ?_
      refine go_iload_n (x := a2) dX12_sumIsTold_19 rfl ?_
      refine gvV2 MX12_fail dX12_sumIsTold_20 lX12_308 kX12_fail vX12_fail sh82 (by decide) rfl (Nat.le_of_ble_eq_true rfl) vc ?_
      intro h5 vc
      obtain ⟨hR5, vc⟩ := vc
      replace hR := hR5.trans hR
      refine go_aload_n (x := 82) dX12_sumIsTold_23 rfl ?_
      refine go_getI' (v := (h5.1 82 5)) dX12_sumIsTold_24 f12_278 sh82 (fun _ _ => rfl) rfl ?_
      refine go_if_eq 31 dX12_sumIsTold_27 rfl (fun q => ?_) (fun q => ?_)
      · replace vc := vc.1 q
        refine go_aload_n (x := 82) dX12_sumIsTold_31 rfl ?_
        refine go_iload_n (x := a1) dX12_sumIsTold_32 rfl ?_
        refine go_if_ne 40 dX12_sumIsTold_33 rfl (fun q => ?_) (fun q => ?_)
        · replace vc := vc.1 q
          refine go_iconst (v := 0) dX12_sumIsTold_40 rfl ?_
          refine go_putZ dX12_sumIsTold_41 f12_370 sh82 rfl rfl (by decide) ?_
          refine go_aload_n (x := 82) dX12_sumIsTold_44 rfl ?_
          refine go_getR (x := 127) dX12_sumIsTold_45 f12_148 sh82 (fun _ _ => rfl) (rf82_54 hR) ?_
          refine go_iload_n (x := a1) dX12_sumIsTold_48 rfl ?_
          refine go_aload_n (x := 82) dX12_sumIsTold_49 rfl ?_
          refine go_getI' (v := (h5.1 82 60)) dX12_sumIsTold_50 f12_374 sh82 (fun _ _ => rfl) rfl ?_
          refine go_iast dX12_sumIsTold_53 sh127 vc.1 ?_
          have vc := vc.2
          show gg p l e s m args below meth c G (d + 1) MX12_sumIsTold Q 54 [some (.ref 82), some (.int a1), some (.int a2)] [] (sI (sI h5 82 57 0) 127 a1.toNatClampNeg (h5.1 82 60))
          refine go_aload_n (x := 82) dX12_sumIsTold_54 rfl ?_
          refine go_iconst (v := 0) dX12_sumIsTold_55 rfl ?_
          refine go_putI dX12_sumIsTold_56 f12_377 sh82 rfl rfl ?_
          refine go_aload_n (x := 82) dX12_sumIsTold_59 rfl ?_
          refine go_iconst (v := 0) dX12_sumIsTold_60 rfl ?_
          refine go_putI dX12_sumIsTold_61 f12_380 sh82 rfl rfl ?_
          refine go_aload_n (x := 82) dX12_sumIsTold_64 rfl ?_
          refine go_iconst (v := 0) dX12_sumIsTold_65 rfl ?_
          refine go_putI dX12_sumIsTold_66 f12_383 sh82 rfl rfl ?_
          refine go_aload_n (x := 82) dX12_sumIsTold_69 rfl ?_
          refine gvV0 MX12_sumsTold dX12_sumIsTold_70 lX12_386 kX12_sumsTold vX12_sumsTold sh82 (by decide) rfl (Nat.le_of_ble_eq_true rfl) vc ?_
          intro h6 vc
          obtain ⟨hR6, vc⟩ := vc
          replace hR := hR6.trans hR
          refine go_aload_n (x := 82) dX12_sumIsTold_73 rfl ?_
          refine go_getR (x := 128) dX12_sumIsTold_74 f12_151 sh82 (fun _ _ => rfl) (rf82_55 hR) ?_
          refine go_iload_n (x := a1) dX12_sumIsTold_77 rfl ?_
          refine go_aload_n (x := 82) dX12_sumIsTold_78 rfl ?_
          refine go_getI' (v := (h6.1 82 60)) dX12_sumIsTold_79 f12_374 sh82 (fun _ _ => rfl) rfl ?_
          refine go_iast dX12_sumIsTold_82 sh128 vc.1 ?_
          have vc := vc.2
          show gg p l e s m args below meth c G (d + 1) MX12_sumIsTold Q 83 [some (.ref 82), some (.int a1), some (.int a2)] [] (sI h6 128 a1.toNatClampNeg (h6.1 82 60))
          exact go_vret dX12_sumIsTold_83 rfl vc rfl (Nat.le_refl _) (Nat.le_refl _)
        · replace vc := vc.2 q
          refine go_iconst (v := 1) dX12_sumIsTold_36 rfl ?_
          refine go_goto 41 dX12_sumIsTold_37 rfl ?_
          refine go_putZ dX12_sumIsTold_41 f12_370 sh82 rfl rfl (by decide) ?_
          refine go_aload_n (x := 82) dX12_sumIsTold_44 rfl ?_
          refine go_getR (x := 127) dX12_sumIsTold_45 f12_148 sh82 (fun _ _ => rfl) (rf82_54 hR) ?_
          refine go_iload_n (x := a1) dX12_sumIsTold_48 rfl ?_
          refine go_aload_n (x := 82) dX12_sumIsTold_49 rfl ?_
          refine go_getI' (v := (h5.1 82 60)) dX12_sumIsTold_50 f12_374 sh82 (fun _ _ => rfl) rfl ?_
          refine go_iast dX12_sumIsTold_53 sh127 vc.1 ?_
          have vc := vc.2
          show gg p l e s m args below meth c G (d + 1) MX12_sumIsTold Q 54 [some (.ref 82), some (.int a1), some (.int a2)] [] (sI (sI h5 82 57 1) 127 a1.toNatClampNeg (h5.1 82 60))
          refine go_aload_n (x := 82) dX12_sumIsTold_54 rfl ?_
          refine go_iconst (v := 0) dX12_sumIsTold_55 rfl ?_
          refine go_putI dX12_sumIsTold_56 f12_377 sh82 rfl rfl ?_
          refine go_aload_n (x := 82) dX12_sumIsTold_59 rfl ?_
          refine go_iconst (v := 0) dX12_sumIsTold_60 rfl ?_
          refine go_putI dX12_sumIsTold_61 f12_380 sh82 rfl rfl ?_
          refine go_aload_n (x := 82) dX12_sumIsTold_64 rfl ?_
          refine go_iconst (v := 0) dX12_sumIsTold_65 rfl ?_
          refine go_putI dX12_sumIsTold_66 f12_383 sh82 rfl rfl ?_
          refine go_aload_n (x := 82) dX12_sumIsTold_69 rfl ?_
          refine gvV0 MX12_sumsTold dX12_sumIsTold_70 lX12_386 kX12_sumsTold vX12_sumsTold sh82 (by decide) rfl (Nat.le_of_ble_eq_true rfl) vc ?_
          intro h7 vc
          obtain ⟨hR7, vc⟩ := vc
          replace hR := hR7.trans hR
          refine go_aload_n (x := 82) dX12_sumIsTold_73 rfl ?_
          refine go_getR (x := 128) dX12_sumIsTold_74 f12_151 sh82 (fun _ _ => rfl) (rf82_55 hR) ?_
          refine go_iload_n (x := a1) dX12_sumIsTold_77 rfl ?_
          refine go_aload_n (x := 82) dX12_sumIsTold_78 rfl ?_
          refine go_getI' (v := (h7.1 82 60)) dX12_sumIsTold_79 f12_374 sh82 (fun _ _ => rfl) rfl ?_
          refine go_iast dX12_sumIsTold_82 sh128 vc.1 ?_
          have vc := vc.2
          show gg p l e s m args below meth c G (d + 1) MX12_sumIsTold Q 83 [some (.ref 82), some (.int a1), some (.int a2)] [] (sI h7 128 a1.toNatClampNeg (h7.1 82 60))
          exact go_vret dX12_sumIsTold_83 rfl vc rfl (Nat.le_refl _) (Nat.le_refl _)
      · replace vc := vc.2 q
        exact go_vret dX12_sumIsTold_30 rfl vc rfl (Nat.le_refl _) (Nat.le_refl _)
set_option maxRecDepth 20000 in
theorem wX12_statementTold_0 {p : Program} {l : Launch} {e : Env} {s : State} {m : MethodId} {args : Array Value} {below : List Frame} {meth : Method} {c : Code} {G : gG} {d : Nat} {Q : Option Value → gH → Prop} {h : gH} {lk sp : Nat} {cd : Option Nat}  (hR : h.2.2 = gRF lk sp cd) (hlk : lk = 30 ∨ lk = 67) (hsp : sp = 30 ∨ sp = 67)  (vc : ((¬ (h.1 82 56) = 60 → gC l G d MX12_takes [.ref 82, .ref 86] h (rI fun v1 h1 => h1.2.2 = (h).2.2 ∧ ((v1 = 0 → gC l G d MX12_takes [.ref 82, .ref 87] h1 (rI fun v2 h2 => h2.2.2 = (h1).2.2 ∧ ((v2 = 0 → gC l G d MX12_takes [.ref 82, .ref 90] h2 (rI fun v3 h3 => h3.2.2 = (h2).2.2 ∧ ((v3 = 0 → gC l G d MX12_takes [.ref 82, .ref 92] h3 (rI fun v4 h4 => h4.2.2 = (h3).2.2 ∧ ((v4 = 0 → gC l G d MX12_takes [.ref 82, .ref 93] h4 (rI fun v5 h5 => h5.2.2 = (h4).2.2 ∧ ((v5 = 0 → gC l G d MX12_takes [.ref 82, .ref 94] h5 (rI fun v6 h6 => h6.2.2 = (h5).2.2 ∧ ((v6 = 0 → gC l G d MX12_takes [.ref 82, .ref 95] h6 (rI fun v7 h7 => h7.2.2 = (h6).2.2 ∧ ((v7 = 0 → gC l G d MX12_takes [.ref 82, .ref 96] h7 (rI fun v8 h8 => h8.2.2 = (h7).2.2 ∧ ((v8 = 0 → gC l G d MX12_takes [.ref 82, .ref 97] h8 (rI fun v9 h9 => h9.2.2 = (h8).2.2 ∧ ((v9 = 0 → gC l G d MX12_takes [.ref 82, .ref 98] h9 (rI fun v10 h10 => h10.2.2 = (h9).2.2 ∧ ((v10 = 0 → gC l G d MX12_takes [.ref 82, .ref 99] h10 (rI fun v11 h11 => h11.2.2 = (h10).2.2 ∧ ((v11 = 0 → gC l G d MX12_asks [.ref 82, .ref 100] h11 (rV fun h12 => h12.2.2 = (h11).2.2 ∧ gC l G d MX12_number [.ref 82, .int 1, .int 99] h12 (rI fun v13 h13 => h13.2.2 = (h12).2.2 ∧ gg p l e s m args below meth c G (d + 1) MX12_statementTold Q 257 [some (.ref 82), some (.int (h.1 82 2))] [] (sI h13 126 0 v13)))) ∧ (¬ v11 = 0 → gC l G d MX12_sumIsTold [.ref 82, .int 2, .int (h.1 82 2)] h11 (rV fun h14 => h14.2.2 = (h11).2.2 ∧ gg p l e s m args below meth c G (d + 1) MX12_statementTold Q 257 [some (.ref 82), some (.int (h.1 82 2))] [] h14))))) ∧ (¬ v10 = 0 → gC l G d MX12_sumIsTold [.ref 82, .int 1, .int (h.1 82 2)] h10 (rV fun h15 => h15.2.2 = (h10).2.2 ∧ gg p l e s m args below meth c G (d + 1) MX12_statementTold Q 257 [some (.ref 82), some (.int (h.1 82 2))] [] h15))))) ∧ (¬ v9 = 0 → gC l G d MX12_sumIsTold [.ref 82, .int 0, .int (h.1 82 2)] h9 (rV fun h16 => h16.2.2 = (h9).2.2 ∧ gg p l e s m args below meth c G (d + 1) MX12_statementTold Q 257 [some (.ref 82), some (.int (h.1 82 2))] [] h16))))) ∧ (¬ v8 = 0 → gC l G d MX12_skyTold [.ref 82, .int 3, .int (h.1 82 2)] h8 (rV fun h17 => h17.2.2 = (h8).2.2 ∧ gg p l e s m args below meth c G (d + 1) MX12_statementTold Q 257 [some (.ref 82), some (.int (h.1 82 2))] [] h17))))) ∧ (¬ v7 = 0 → gC l G d MX12_skyTold [.ref 82, .int 2, .int (h.1 82 2)] h7 (rV fun h18 => h18.2.2 = (h7).2.2 ∧ gg p l e s m args below meth c G (d + 1) MX12_statementTold Q 257 [some (.ref 82), some (.int (h.1 82 2))] [] h18))))) ∧ (¬ v6 = 0 → gC l G d MX12_skyTold [.ref 82, .int 1, .int (h.1 82 2)] h6 (rV fun h19 => h19.2.2 = (h6).2.2 ∧ gg p l e s m args below meth c G (d + 1) MX12_statementTold Q 257 [some (.ref 82), some (.int (h.1 82 2))] [] h19))))) ∧ (¬ v5 = 0 → gC l G d MX12_skyTold [.ref 82, .int 0, .int (h.1 82 2)] h5 (rV fun h20 => h20.2.2 = (h5).2.2 ∧ gg p l e s m args below meth c G (d + 1) MX12_statementTold Q 257 [some (.ref 82), some (.int (h.1 82 2))] [] h20))))) ∧ (¬ v4 = 0 → gC l G d MX12_likesTold [.ref 82] h4 (rV fun h21 => h21.2.2 = (h4).2.2 ∧ gg p l e s m args below meth c G (d + 1) MX12_statementTold Q 257 [some (.ref 82), some (.int (h.1 82 2))] [] h21))))) ∧ (¬ v3 = 0 → gC l G d MX12_handTold [.ref 82, .int (h.1 82 2)] h3 (rV fun h22 => h22.2.2 = (h3).2.2 ∧ gg p l e s m args below meth c G (d + 1) MX12_statementTold Q 257 [some (.ref 82), some (.int (h.1 82 2))] [] h22))))) ∧ (¬ v2 = 0 → gC l G d MX12_boatTold [.ref 82, .int (h.1 82 2)] h2 (rV fun h23 => h23.2.2 = (h2).2.2 ∧ gg p l e s m args below meth c G (d + 1) MX12_statementTold Q 257 [some (.ref 82), some (.int (h.1 82 2))] [] h23))))) ∧ (¬ v1 = 0 → gC l G d MX12_rowTold [.ref 82, .int (h.1 82 2)] h1 (rV fun h24 => h24.2.2 = (h1).2.2 ∧ gg p l e s m args below meth c G (d + 1) MX12_statementTold Q 257 [some (.ref 82), some (.int (h.1 82 2))] [] h24))))) ∧ ((h.1 82 56) = 60 → gC l G d MX12_fail [.ref 82, .int 5, .int (h.1 82 2)] h (rV fun h25 => h25.2.2 = (h).2.2 ∧ Q none h25)))) : gg p l e s m args below meth c G (d + 1) MX12_statementTold Q 0 [some (.ref 82), none] [] h := by
  refine go_aload_n (x := 82) dX12_statementTold_0 rfl ?_
  refine go_getI' (v := (h.1 82 2)) dX12_statementTold_1 f12_284 sh82 (fun _ _ => rfl) rfl ?_
  refine go_istore_n dX12_statementTold_4 (Nat.le_of_ble_eq_true rfl) ?_
  show gg p l e s m args below meth c G (d + 1) MX12_statementTold Q 5 [some (.ref 82), some (.int (h.1 82 2))] [] h
  refine go_aload_n (x := 82) dX12_statementTold_5 rfl ?_
  refine go_getI' (v := (h.1 82 56)) dX12_statementTold_6 f12_389 sh82 (fun _ _ => rfl) rfl ?_
  refine go_bipush (v := 60) dX12_statementTold_9 rfl ?_
  refine go_icmp_ne 21 dX12_statementTold_11 rfl (fun q => ?_) (fun q => ?_)
  · replace vc := vc.1 q
    refine go_aload_n (x := 82) dX12_statementTold_21 rfl ?_
    refine go_aload_n (x := 82) dX12_statementTold_22 rfl ?_
    refine go_getR (x := 86) dX12_statementTold_23 f12_24 sh82 (fun _ _ => rfl) (rf82_12 hR) ?_
    refine gvI1 MX12_takes dX12_statementTold_26 lX12_305 kX12_takes vX12_takes sh82 (by decide) rfl (Nat.le_of_ble_eq_true rfl) vc ?_
    intro v1 h1 vc
    obtain ⟨hR1, vc⟩ := vc
    replace hR := hR1.trans hR
    refine go_if_eq 40 dX12_statementTold_29 rfl (fun q => ?_) (fun q => ?_)
    · replace vc := vc.1 q
      refine go_aload_n (x := 82) dX12_statementTold_40 rfl ?_
      refine go_aload_n (x := 82) dX12_statementTold_41 rfl ?_
      refine go_getR (x := 87) dX12_statementTold_42 f12_27 sh82 (fun _ _ => rfl) (rf82_13 hR) ?_
      refine gvI1 MX12_takes dX12_statementTold_45 lX12_305 kX12_takes vX12_takes sh82 (by decide) rfl (Nat.le_of_ble_eq_true rfl) vc ?_
      intro v2 h2 vc
      obtain ⟨hR2, vc⟩ := vc
      replace hR := hR2.trans hR
      refine go_if_eq 59 dX12_statementTold_48 rfl (fun q => ?_) (fun q => ?_)
      · replace vc := vc.1 q
        refine go_aload_n (x := 82) dX12_statementTold_59 rfl ?_
        refine go_aload_n (x := 82) dX12_statementTold_60 rfl ?_
        refine go_getR (x := 90) dX12_statementTold_61 f12_36 sh82 (fun _ _ => rfl) (rf82_16 hR) ?_
        refine gvI1 MX12_takes dX12_statementTold_64 lX12_305 kX12_takes vX12_takes sh82 (by decide) rfl (Nat.le_of_ble_eq_true rfl) vc ?_
        intro v3 h3 vc
        obtain ⟨hR3, vc⟩ := vc
        replace hR := hR3.trans hR
        refine go_if_eq 78 dX12_statementTold_67 rfl (fun q => ?_) (fun q => ?_)
        · replace vc := vc.1 q
          refine go_aload_n (x := 82) dX12_statementTold_78 rfl ?_
          refine go_aload_n (x := 82) dX12_statementTold_79 rfl ?_
          refine go_getR (x := 92) dX12_statementTold_80 f12_42 sh82 (fun _ _ => rfl) (rf82_18 hR) ?_
          refine gvI1 MX12_takes dX12_statementTold_83 lX12_305 kX12_takes vX12_takes sh82 (by decide) rfl (Nat.le_of_ble_eq_true rfl) vc ?_
          intro v4 h4 vc
          obtain ⟨hR4, vc⟩ := vc
          replace hR := hR4.trans hR
          refine go_if_eq 96 dX12_statementTold_86 rfl (fun q => ?_) (fun q => ?_)
          · replace vc := vc.1 q
            refine go_aload_n (x := 82) dX12_statementTold_96 rfl ?_
            refine go_aload_n (x := 82) dX12_statementTold_97 rfl ?_
            refine go_getR (x := 93) dX12_statementTold_98 f12_45 sh82 (fun _ _ => rfl) (rf82_19 hR) ?_
            refine gvI1 MX12_takes dX12_statementTold_101 lX12_305 kX12_takes vX12_takes sh82 (by decide) rfl (Nat.le_of_ble_eq_true rfl) vc ?_
            intro v5 h5 vc
            obtain ⟨hR5, vc⟩ := vc
            replace hR := hR5.trans hR
            refine go_if_eq 116 dX12_statementTold_104 rfl (fun q => ?_) (fun q => ?_)
            · replace vc := vc.1 q
              refine go_aload_n (x := 82) dX12_statementTold_116 rfl ?_
              refine go_aload_n (x := 82) dX12_statementTold_117 rfl ?_
              refine go_getR (x := 94) dX12_statementTold_118 f12_48 sh82 (fun _ _ => rfl) (rf82_20 hR) ?_
              refine gvI1 MX12_takes dX12_statementTold_121 lX12_305 kX12_takes vX12_takes sh82 (by decide) rfl (Nat.le_of_ble_eq_true rfl) vc ?_
              intro v6 h6 vc
              obtain ⟨hR6, vc⟩ := vc
              replace hR := hR6.trans hR
              refine go_if_eq 136 dX12_statementTold_124 rfl (fun q => ?_) (fun q => ?_)
              · replace vc := vc.1 q
                refine go_aload_n (x := 82) dX12_statementTold_136 rfl ?_
                refine go_aload_n (x := 82) dX12_statementTold_137 rfl ?_
                refine go_getR (x := 95) dX12_statementTold_138 f12_51 sh82 (fun _ _ => rfl) (rf82_21 hR) ?_
                refine gvI1 MX12_takes dX12_statementTold_141 lX12_305 kX12_takes vX12_takes sh82 (by decide) rfl (Nat.le_of_ble_eq_true rfl) vc ?_
                intro v7 h7 vc
                obtain ⟨hR7, vc⟩ := vc
                replace hR := hR7.trans hR
                refine go_if_eq 156 dX12_statementTold_144 rfl (fun q => ?_) (fun q => ?_)
                · replace vc := vc.1 q
                  refine go_aload_n (x := 82) dX12_statementTold_156 rfl ?_
                  refine go_aload_n (x := 82) dX12_statementTold_157 rfl ?_
                  refine go_getR (x := 96) dX12_statementTold_158 f12_54 sh82 (fun _ _ => rfl) (rf82_22 hR) ?_
                  refine gvI1 MX12_takes dX12_statementTold_161 lX12_305 kX12_takes vX12_takes sh82 (by decide) rfl (Nat.le_of_ble_eq_true rfl) vc ?_
                  intro v8 h8 vc
                  obtain ⟨hR8, vc⟩ := vc
                  replace hR := hR8.trans hR
                  refine go_if_eq 176 dX12_statementTold_164 rfl (fun q => ?_) (fun q => ?_)
                  · replace vc := vc.1 q
                    refine go_aload_n (x := 82) dX12_statementTold_176 rfl ?_
                    refine go_aload_n (x := 82) dX12_statementTold_177 rfl ?_
                    refine go_getR (x := 97) dX12_statementTold_178 f12_57 sh82 (fun _ _ => rfl) (rf82_23 hR) ?_
                    refine gvI1 MX12_takes dX12_statementTold_181 lX12_305 kX12_takes vX12_takes sh82 (by decide) rfl (Nat.le_of_ble_eq_true rfl) vc ?_
                    intro v9 h9 vc
                    obtain ⟨hR9, vc⟩ := vc
                    replace hR := hR9.trans hR
                    refine go_if_eq 196 dX12_statementTold_184 rfl (fun q => ?_) (fun q => ?_)
                    · replace vc := vc.1 q
                      refine go_aload_n (x := 82) dX12_statementTold_196 rfl ?_
                      refine go_aload_n (x := 82) dX12_statementTold_197 rfl ?_
                      refine go_getR (x := 98) dX12_statementTold_198 f12_60 sh82 (fun _ _ => rfl) (rf82_24 hR) ?_
                      refine gvI1 MX12_takes dX12_statementTold_201 lX12_305 kX12_takes vX12_takes sh82 (by decide) rfl (Nat.le_of_ble_eq_true rfl) vc ?_
                      intro v10 h10 vc
                      obtain ⟨hR10, vc⟩ := vc
                      replace hR := hR10.trans hR
                      refine go_if_eq 216 dX12_statementTold_204 rfl (fun q => ?_) (fun q => ?_)
                      · replace vc := vc.1 q
                        refine go_aload_n (x := 82) dX12_statementTold_216 rfl ?_
                        refine go_aload_n (x := 82) dX12_statementTold_217 rfl ?_
                        refine go_getR (x := 99) dX12_statementTold_218 f12_63 sh82 (fun _ _ => rfl) (rf82_25 hR) ?_
                        refine gvI1 MX12_takes dX12_statementTold_221 lX12_305 kX12_takes vX12_takes sh82 (by decide) rfl (Nat.le_of_ble_eq_true rfl) vc ?_
                        intro v11 h11 vc
                        obtain ⟨hR11, vc⟩ := vc
                        replace hR := hR11.trans hR
                        refine go_if_eq 236 dX12_statementTold_224 rfl (fun q => ?_) (fun q => ?_)
                        · replace vc := vc.1 q
                          refine go_aload_n (x := 82) dX12_statementTold_236 rfl ?_
                          refine go_aload_n (x := 82) dX12_statementTold_237 rfl ?_
                          refine go_getR (x := 100) dX12_statementTold_238 f12_66 sh82 (fun _ _ => rfl) (rf82_26 hR) ?_
                          refine gvV1 MX12_asks dX12_statementTold_241 lX12_344 kX12_asks vX12_asks sh82 (by decide) rfl (Nat.le_of_ble_eq_true rfl) vc ?_
                          intro h12 vc
                          obtain ⟨hR12, vc⟩ := vc
                          replace hR := hR12.trans hR
                          refine go_aload_n (x := 82) dX12_statementTold_244 rfl ?_
                          refine go_getR (x := 126) dX12_statementTold_245 f12_145 sh82 (fun _ _ => rfl) (rf82_53 hR) ?_
                          refine go_iconst (v := 0) dX12_statementTold_248 rfl ?_
                          refine go_aload_n (x := 82) dX12_statementTold_249 rfl ?_
                          refine go_iconst (v := 1) dX12_statementTold_250 rfl ?_
                          refine go_bipush (v := 99) dX12_statementTold_251 rfl ?_
                          refine gvI2 MX12_number dX12_statementTold_253 lX12_348 kX12_number vX12_number sh82 (by decide) rfl (Nat.le_of_ble_eq_true rfl) vc ?_
                          intro v13 h13 vc
                          obtain ⟨hR13, vc⟩ := vc
                          replace hR := hR13.trans hR
                          refine go_iast dX12_statementTold_256 sh126 (by unfold vp_in; decide) ?_
                          exact vc
                        · replace vc := vc.2 q
                          refine go_aload_n (x := 82) dX12_statementTold_227 rfl ?_
                          refine go_iconst (v := 2) dX12_statementTold_228 rfl ?_
                          refine go_iload_n (x := (h.1 82 2)) dX12_statementTold_229 rfl ?_
                          refine gvV2 MX12_sumIsTold dX12_statementTold_230 lX12_407 kX12_sumIsTold vX12_sumIsTold sh82 (by decide) rfl (Nat.le_of_ble_eq_true rfl) vc ?_
                          intro h14 vc
                          obtain ⟨hR14, vc⟩ := vc
                          replace hR := hR14.trans hR
                          refine go_goto 257 dX12_statementTold_233 rfl ?_
                          exact vc
                      · replace vc := vc.2 q
                        refine go_aload_n (x := 82) dX12_statementTold_207 rfl ?_
                        refine go_iconst (v := 1) dX12_statementTold_208 rfl ?_
                        refine go_iload_n (x := (h.1 82 2)) dX12_statementTold_209 rfl ?_
                        refine gvV2 MX12_sumIsTold dX12_statementTold_210 lX12_407 kX12_sumIsTold vX12_sumIsTold sh82 (by decide) rfl (Nat.le_of_ble_eq_true rfl) vc ?_
                        intro h15 vc
                        obtain ⟨hR15, vc⟩ := vc
                        replace hR := hR15.trans hR
                        refine go_goto 257 dX12_statementTold_213 rfl ?_
                        exact vc
                    · replace vc := vc.2 q
                      refine go_aload_n (x := 82) dX12_statementTold_187 rfl ?_
                      refine go_iconst (v := 0) dX12_statementTold_188 rfl ?_
                      refine go_iload_n (x := (h.1 82 2)) dX12_statementTold_189 rfl ?_
                      refine gvV2 MX12_sumIsTold dX12_statementTold_190 lX12_407 kX12_sumIsTold vX12_sumIsTold sh82 (by decide) rfl (Nat.le_of_ble_eq_true rfl) vc ?_
                      intro h16 vc
                      obtain ⟨hR16, vc⟩ := vc
                      replace hR := hR16.trans hR
                      refine go_goto 257 dX12_statementTold_193 rfl ?_
                      exact vc
                  · replace vc := vc.2 q
                    refine go_aload_n (x := 82) dX12_statementTold_167 rfl ?_
                    refine go_iconst (v := 3) dX12_statementTold_168 rfl ?_
                    refine go_iload_n (x := (h.1 82 2)) dX12_statementTold_169 rfl ?_
                    refine gvV2 MX12_skyTold dX12_statementTold_170 lX12_404 kX12_skyTold vX12_skyTold sh82 (by decide) rfl (Nat.le_of_ble_eq_true rfl) vc ?_
                    intro h17 vc
                    obtain ⟨hR17, vc⟩ := vc
                    replace hR := hR17.trans hR
                    refine go_goto 257 dX12_statementTold_173 rfl ?_
                    exact vc
                · replace vc := vc.2 q
                  refine go_aload_n (x := 82) dX12_statementTold_147 rfl ?_
                  refine go_iconst (v := 2) dX12_statementTold_148 rfl ?_
                  refine go_iload_n (x := (h.1 82 2)) dX12_statementTold_149 rfl ?_
                  refine gvV2 MX12_skyTold dX12_statementTold_150 lX12_404 kX12_skyTold vX12_skyTold sh82 (by decide) rfl (Nat.le_of_ble_eq_true rfl) vc ?_
                  intro h18 vc
                  obtain ⟨hR18, vc⟩ := vc
                  replace hR := hR18.trans hR
                  refine go_goto 257 dX12_statementTold_153 rfl ?_
                  exact vc
              · replace vc := vc.2 q
                refine go_aload_n (x := 82) dX12_statementTold_127 rfl ?_
                refine go_iconst (v := 1) dX12_statementTold_128 rfl ?_
                refine go_iload_n (x := (h.1 82 2)) dX12_statementTold_129 rfl ?_
                refine gvV2 MX12_skyTold dX12_statementTold_130 lX12_404 kX12_skyTold vX12_skyTold sh82 (by decide) rfl (Nat.le_of_ble_eq_true rfl) vc ?_
                intro h19 vc
                obtain ⟨hR19, vc⟩ := vc
                replace hR := hR19.trans hR
                refine go_goto 257 dX12_statementTold_133 rfl ?_
                exact vc
            · replace vc := vc.2 q
              refine go_aload_n (x := 82) dX12_statementTold_107 rfl ?_
              refine go_iconst (v := 0) dX12_statementTold_108 rfl ?_
              refine go_iload_n (x := (h.1 82 2)) dX12_statementTold_109 rfl ?_
              refine gvV2 MX12_skyTold dX12_statementTold_110 lX12_404 kX12_skyTold vX12_skyTold sh82 (by decide) rfl (Nat.le_of_ble_eq_true rfl) vc ?_
              intro h20 vc
              obtain ⟨hR20, vc⟩ := vc
              replace hR := hR20.trans hR
              refine go_goto 257 dX12_statementTold_113 rfl ?_
              exact vc
          · replace vc := vc.2 q
            refine go_aload_n (x := 82) dX12_statementTold_89 rfl ?_
            refine gvV0 MX12_likesTold dX12_statementTold_90 lX12_401 kX12_likesTold vX12_likesTold sh82 (by decide) rfl (Nat.le_of_ble_eq_true rfl) vc ?_
            intro h21 vc
            obtain ⟨hR21, vc⟩ := vc
            replace hR := hR21.trans hR
            refine go_goto 257 dX12_statementTold_93 rfl ?_
            exact vc
        · replace vc := vc.2 q
          refine go_aload_n (x := 82) dX12_statementTold_70 rfl ?_
          refine go_iload_n (x := (h.1 82 2)) dX12_statementTold_71 rfl ?_
          refine gvV1 MX12_handTold dX12_statementTold_72 lX12_398 kX12_handTold vX12_handTold sh82 (by decide) rfl (Nat.le_of_ble_eq_true rfl) vc ?_
          intro h22 vc
          obtain ⟨hR22, vc⟩ := vc
          replace hR := hR22.trans hR
          refine go_goto 257 dX12_statementTold_75 rfl ?_
          exact vc
      · replace vc := vc.2 q
        refine go_aload_n (x := 82) dX12_statementTold_51 rfl ?_
        refine go_iload_n (x := (h.1 82 2)) dX12_statementTold_52 rfl ?_
        refine gvV1 MX12_boatTold dX12_statementTold_53 lX12_395 kX12_boatTold vX12_boatTold sh82 (by decide) rfl (Nat.le_of_ble_eq_true rfl) vc ?_
        intro h23 vc
        obtain ⟨hR23, vc⟩ := vc
        replace hR := hR23.trans hR
        refine go_goto 257 dX12_statementTold_56 rfl ?_
        exact vc
    · replace vc := vc.2 q
      refine go_aload_n (x := 82) dX12_statementTold_32 rfl ?_
      refine go_iload_n (x := (h.1 82 2)) dX12_statementTold_33 rfl ?_
      refine gvV1 MX12_rowTold dX12_statementTold_34 lX12_392 kX12_rowTold vX12_rowTold sh82 (by decide) rfl (Nat.le_of_ble_eq_true rfl) vc ?_
      intro h24 vc
      obtain ⟨hR24, vc⟩ := vc
      replace hR := hR24.trans hR
      refine go_goto 257 dX12_statementTold_37 rfl ?_
      exact vc
  · replace vc := vc.2 q
    refine go_aload_n (x := 82) dX12_statementTold_14 rfl ?_
    refine go_iconst (v := 5) dX12_statementTold_15 rfl ?_
    refine go_iload_n (x := (h.1 82 2)) dX12_statementTold_16 rfl ?_
    refine gvV2 MX12_fail dX12_statementTold_17 lX12_308 kX12_fail vX12_fail sh82 (by decide) rfl (Nat.le_of_ble_eq_true rfl) vc ?_
    intro h25 vc
    obtain ⟨hR25, vc⟩ := vc
    replace hR := hR25.trans hR
    exact go_vret dX12_statementTold_20 rfl vc rfl (Nat.le_refl _) (Nat.le_refl _)
set_option maxRecDepth 20000 in
theorem wX12_statementTold_257 {p : Program} {l : Launch} {e : Env} {s : State} {m : MethodId} {args : Array Value} {below : List Frame} {meth : Method} {c : Code} {G : gG} {d : Nat} {Q : Option Value → gH → Prop} {h : gH} {lk sp : Nat} {cd : Option Nat} {x1 : Int32} (hR : h.2.2 = gRF lk sp cd) (hlk : lk = 30 ∨ lk = 67) (hsp : sp = 30 ∨ sp = 67)  (vc : gC l G d MX12_asksSign [.ref 82, .int 59] h (rV fun h1 => h1.2.2 = (h).2.2 ∧ Q none (sI h1 82 56 ((h1.1 82 56) + 1)))) : gg p l e s m args below meth c G (d + 1) MX12_statementTold Q 257 [some (.ref 82), some (.int x1)] [] h := by
  refine go_aload_n (x := 82) dX12_statementTold_257 rfl ?_
  refine go_bipush (v := 59) dX12_statementTold_258 rfl ?_
  refine gvV1 MX12_asksSign dX12_statementTold_260 lX12_352 kX12_asksSign vX12_asksSign sh82 (by decide) rfl (Nat.le_of_ble_eq_true rfl) vc ?_
  intro h1 vc
  obtain ⟨hR1, vc⟩ := vc
  replace hR := hR1.trans hR
  refine go_aload_n (x := 82) dX12_statementTold_263 rfl ?_
  refine go_dup dX12_statementTold_264 rfl ?_
  refine go_getI' (v := (h1.1 82 56)) dX12_statementTold_265 f12_389 sh82 (fun _ _ => rfl) rfl ?_
  refine go_iconst (v := 1) dX12_statementTold_268 rfl ?_
  refine go_iadd dX12_statementTold_269 ?_
  refine go_putI dX12_statementTold_270 f12_389 sh82 rfl rfl ?_
  exact go_vret dX12_statementTold_273 rfl vc rfl (Nat.le_refl _) (Nat.le_refl _)
set_option maxRecDepth 20000 in
theorem wX12_lake_0 {p : Program} {l : Launch} {e : Env} {s : State} {m : MethodId} {args : Array Value} {below : List Frame} {meth : Method} {c : Code} {G : gG} {d : Nat} {Q : Option Value → gH → Prop} {h : gH} {lk sp : Nat} {cd : Option Nat}  (hR : h.2.2 = gRF lk sp cd) (hlk : lk = 30 ∨ lk = 67) (hsp : sp = 30 ∨ sp = 67)  (vc : gg p l e s m args below meth c G (d + 1) MX12_lake Q 40 [some (.ref 82), some (.int 0)] [] (sI (sI (sI (sI (sI (sI (sI h 82 3 (h.1 82 1)) 82 1 0) 82 2 0) 82 4 (-1)) 82 5 0) 82 6 (-1)) 82 60 0)) : gg p l e s m args below meth c G (d + 1) MX12_lake Q 0 [some (.ref 82), none] [] h := by
  refine go_aload_n (x := 82) dX12_lake_0 rfl ?_
  refine go_aload_n (x := 82) dX12_lake_1 rfl ?_
  refine go_getI' (v := (h.1 82 1)) dX12_lake_2 f12_275 sh82 (fun _ _ => rfl) rfl ?_
  refine go_putI dX12_lake_5 f12_287 sh82 rfl rfl ?_
  refine go_aload_n (x := 82) dX12_lake_8 rfl ?_
  refine go_iconst (v := 0) dX12_lake_9 rfl ?_
  refine go_putI dX12_lake_10 f12_275 sh82 rfl rfl ?_
  refine go_aload_n (x := 82) dX12_lake_13 rfl ?_
  refine go_iconst (v := 0) dX12_lake_14 rfl ?_
  refine go_putI dX12_lake_15 f12_284 sh82 rfl rfl ?_
  refine go_aload_n (x := 82) dX12_lake_18 rfl ?_
  refine go_iconst (v := (-1)) dX12_lake_19 rfl ?_
  refine go_putI dX12_lake_20 f12_298 sh82 rfl rfl ?_
  refine go_aload_n (x := 82) dX12_lake_23 rfl ?_
  refine go_iconst (v := 0) dX12_lake_24 rfl ?_
  refine go_putI dX12_lake_25 f12_278 sh82 rfl rfl ?_
  refine go_aload_n (x := 82) dX12_lake_28 rfl ?_
  refine go_iconst (v := (-1)) dX12_lake_29 rfl ?_
  refine go_putI dX12_lake_30 f12_281 sh82 rfl rfl ?_
  refine go_aload_n (x := 82) dX12_lake_33 rfl ?_
  refine go_iconst (v := 0) dX12_lake_34 rfl ?_
  refine go_putI dX12_lake_35 f12_374 sh82 rfl rfl ?_
  refine go_iconst (v := 0) dX12_lake_38 rfl ?_
  refine go_istore_n dX12_lake_39 (Nat.le_of_ble_eq_true rfl) ?_
  show gg p l e s m args below meth c G (d + 1) MX12_lake Q 40 [some (.ref 82), some (.int 0)] [] (sI (sI (sI (sI (sI (sI (sI h 82 3 (h.1 82 1)) 82 1 0) 82 2 0) 82 4 (-1)) 82 5 0) 82 6 (-1)) 82 60 0)
  exact vc
set_option maxRecDepth 20000 in
theorem wX12_lake_40 {p : Program} {l : Launch} {e : Env} {s : State} {m : MethodId} {args : Array Value} {below : List Frame} {meth : Method} {c : Code} {G : gG} {d : Nat} {Q : Option Value → gH → Prop} {h : gH} {lk sp : Nat} {cd : Option Nat} {x1 : Int32} (hR : h.2.2 = gRF lk sp cd) (hlk : lk = 30 ∨ lk = 67) (hsp : sp = 30 ∨ sp = 67)  (vc : ((5 ≤ x1 → gg p l e s m args below meth c G (d + 1) MX12_lake Q 60 [some (.ref 82), some (.int 0)] [] h) ∧ (¬ 5 ≤ x1 → (vp_in x1 10 ∧ gg p l e s m args below meth c G (d + 1) MX12_lake Q 40 [some (.ref 82), some (.int (x1 + 1))] [] (sI h 119 x1.toNatClampNeg 0))))) : gg p l e s m args below meth c G (d + 1) MX12_lake Q 40 [some (.ref 82), some (.int x1)] [] h := by
  refine go_iload_n (x := x1) dX12_lake_40 rfl ?_
  refine go_iconst (v := 5) dX12_lake_41 rfl ?_
  refine go_icmp_ge 58 dX12_lake_42 rfl (fun q => ?_) (fun q => ?_)
  · replace vc := vc.1 q
    refine go_iconst (v := 0) dX12_lake_58 rfl ?_
    refine go_istore_n dX12_lake_59 (Nat.le_of_ble_eq_true rfl) ?_
    show gg p l e s m args below meth c G (d + 1) MX12_lake Q 60 [some (.ref 82), some (.int 0)] [] h
    exact vc
  · replace vc := vc.2 q
    refine go_aload_n (x := 82) dX12_lake_45 rfl ?_
    refine go_getR (x := 119) dX12_lake_46 f12_123 sh82 (fun _ _ => rfl) (rf82_46 hR) ?_
    refine go_iload_n (x := x1) dX12_lake_49 rfl ?_
    refine go_iconst (v := 0) dX12_lake_50 rfl ?_
    refine go_iast dX12_lake_51 sh119 vc.1 ?_
    have vc := vc.2
    show gg p l e s m args below meth c G (d + 1) MX12_lake Q 52 [some (.ref 82), some (.int x1)] [] (sI h 119 x1.toNatClampNeg 0)
    refine go_iinc (x := x1) dX12_lake_52 rfl ?_
    show gg p l e s m args below meth c G (d + 1) MX12_lake Q 55 [some (.ref 82), some (.int (x1 + 1))] [] (sI h 119 x1.toNatClampNeg 0)
    refine go_goto 40 dX12_lake_55 rfl ?_
    exact vc
set_option maxRecDepth 20000 in
theorem wX12_lake_60 {p : Program} {l : Launch} {e : Env} {s : State} {m : MethodId} {args : Array Value} {below : List Frame} {meth : Method} {c : Code} {G : gG} {d : Nat} {Q : Option Value → gH → Prop} {h : gH} {lk sp : Nat} {cd : Option Nat} {x1 : Int32} (hR : h.2.2 = gRF lk sp cd) (hlk : lk = 30 ∨ lk = 67) (hsp : sp = 30 ∨ sp = 67)  (vc : ((36 ≤ x1 → gg p l e s m args below meth c G (d + 1) MX12_lake Q 81 [some (.ref 82), some (.int 0)] [] h) ∧ (¬ 36 ≤ x1 → (vp_in x1 72 ∧ gg p l e s m args below meth c G (d + 1) MX12_lake Q 60 [some (.ref 82), some (.int (x1 + 1))] [] (sI h 124 x1.toNatClampNeg 0))))) : gg p l e s m args below meth c G (d + 1) MX12_lake Q 60 [some (.ref 82), some (.int x1)] [] h := by
  refine go_iload_n (x := x1) dX12_lake_60 rfl ?_
  refine go_bipush (v := 36) dX12_lake_61 rfl ?_
  refine go_icmp_ge 79 dX12_lake_63 rfl (fun q => ?_) (fun q => ?_)
  · replace vc := vc.1 q
    refine go_iconst (v := 0) dX12_lake_79 rfl ?_
    refine go_istore_n dX12_lake_80 (Nat.le_of_ble_eq_true rfl) ?_
    show gg p l e s m args below meth c G (d + 1) MX12_lake Q 81 [some (.ref 82), some (.int 0)] [] h
    exact vc
  · replace vc := vc.2 q
    refine go_aload_n (x := 82) dX12_lake_66 rfl ?_
    refine go_getR (x := 124) dX12_lake_67 f12_139 sh82 (fun _ _ => rfl) (rf82_51 hR) ?_
    refine go_iload_n (x := x1) dX12_lake_70 rfl ?_
    refine go_iconst (v := 0) dX12_lake_71 rfl ?_
    refine go_iast dX12_lake_72 sh124 vc.1 ?_
    have vc := vc.2
    show gg p l e s m args below meth c G (d + 1) MX12_lake Q 73 [some (.ref 82), some (.int x1)] [] (sI h 124 x1.toNatClampNeg 0)
    refine go_iinc (x := x1) dX12_lake_73 rfl ?_
    show gg p l e s m args below meth c G (d + 1) MX12_lake Q 76 [some (.ref 82), some (.int (x1 + 1))] [] (sI h 124 x1.toNatClampNeg 0)
    refine go_goto 60 dX12_lake_76 rfl ?_
    exact vc
set_option maxRecDepth 20000 in
theorem wX12_lake_81 {p : Program} {l : Launch} {e : Env} {s : State} {m : MethodId} {args : Array Value} {below : List Frame} {meth : Method} {c : Code} {G : gG} {d : Nat} {Q : Option Value → gH → Prop} {h : gH} {lk sp : Nat} {cd : Option Nat} {x1 : Int32} (hR : h.2.2 = gRF lk sp cd) (hlk : lk = 30 ∨ lk = 67) (hsp : sp = 30 ∨ sp = 67)  (vc : ((3 ≤ x1 → gC l G d MX12_lakeTold [.ref 82] (sI h 126 0 5) (rV fun h1 => h1.2.2 = ((sI h 126 0 5)).2.2 ∧ gg p l e s m args below meth c G (d + 1) MX12_lake Q 115 [some (.ref 82), some (.int x1)] [] (sI h1 82 56 1))) ∧ (¬ 3 ≤ x1 → (vp_in x1 6 ∧ gg p l e s m args below meth c G (d + 1) MX12_lake Q 81 [some (.ref 82), some (.int (x1 + 1))] [] (sI h 127 x1.toNatClampNeg (-1)))))) : gg p l e s m args below meth c G (d + 1) MX12_lake Q 81 [some (.ref 82), some (.int x1)] [] h := by
  refine go_iload_n (x := x1) dX12_lake_81 rfl ?_
  refine go_iconst (v := 3) dX12_lake_82 rfl ?_
  refine go_icmp_ge 99 dX12_lake_83 rfl (fun q => ?_) (fun q => ?_)
  · replace vc := vc.1 q
    refine go_aload_n (x := 82) dX12_lake_99 rfl ?_
    refine go_getR (x := 126) dX12_lake_100 f12_145 sh82 (fun _ _ => rfl) (rf82_53 hR) ?_
    refine go_iconst (v := 0) dX12_lake_103 rfl ?_
    refine go_iconst (v := 5) dX12_lake_104 rfl ?_
    refine go_iast dX12_lake_105 sh126 (by unfold vp_in; decide) ?_
    refine go_aload_n (x := 82) dX12_lake_106 rfl ?_
    refine gvV0 MX12_lakeTold dX12_lake_107 lX12_410 kX12_lakeTold vX12_lakeTold sh82 (by decide) rfl (Nat.le_of_ble_eq_true rfl) vc ?_
    intro h1 vc
    obtain ⟨hR1, vc⟩ := vc
    replace hR := hR1.trans hR
    refine go_aload_n (x := 82) dX12_lake_110 rfl ?_
    refine go_iconst (v := 1) dX12_lake_111 rfl ?_
    refine go_putI dX12_lake_112 f12_389 sh82 rfl rfl ?_
    exact vc
  · replace vc := vc.2 q
    refine go_aload_n (x := 82) dX12_lake_86 rfl ?_
    refine go_getR (x := 127) dX12_lake_87 f12_148 sh82 (fun _ _ => rfl) (rf82_54 hR) ?_
    refine go_iload_n (x := x1) dX12_lake_90 rfl ?_
    refine go_iconst (v := (-1)) dX12_lake_91 rfl ?_
    refine go_iast dX12_lake_92 sh127 vc.1 ?_
    have vc := vc.2
    show gg p l e s m args below meth c G (d + 1) MX12_lake Q 93 [some (.ref 82), some (.int x1)] [] (sI h 127 x1.toNatClampNeg (-1))
    refine go_iinc (x := x1) dX12_lake_93 rfl ?_
    show gg p l e s m args below meth c G (d + 1) MX12_lake Q 96 [some (.ref 82), some (.int (x1 + 1))] [] (sI h 127 x1.toNatClampNeg (-1))
    refine go_goto 81 dX12_lake_96 rfl ?_
    exact vc
set_option maxRecDepth 20000 in
theorem wX12_lake_115 {p : Program} {l : Launch} {e : Env} {s : State} {m : MethodId} {args : Array Value} {below : List Frame} {meth : Method} {c : Code} {G : gG} {d : Nat} {Q : Option Value → gH → Prop} {h : gH} {lk sp : Nat} {cd : Option Nat} {x1 : Int32} (hR : h.2.2 = gRF lk sp cd) (hlk : lk = 30 ∨ lk = 67) (hsp : sp = 30 ∨ sp = 67)  (vc : ((¬ (h.1 82 5) = 0 → (((h.1 82 5) = 0 → gC l G d MX12_stands [.ref 82] (sI (sI h 82 7 (h.1 82 5)) 82 8 (h.1 82 6)) (rV fun h1 => h1.2.2 = ((sI (sI h 82 7 (h.1 82 5)) 82 8 (h.1 82 6))).2.2 ∧ Q (some (.int (h1.1 82 56))) h1)) ∧ (¬ (h.1 82 5) = 0 → Q (some (.int (-1))) (sI (sI (sI h 82 7 (h.1 82 5)) 82 8 (h.1 82 6)) 84 1 ((h.1 84 1) + 1))))) ∧ ((h.1 82 5) = 0 → gC l G d MX12_look [.ref 82] h (rI fun v2 h2 => h2.2.2 = (h).2.2 ∧ ((v2 = (-1) → (((h2.1 82 5) = 0 → gC l G d MX12_stands [.ref 82] (sI (sI h2 82 7 (h2.1 82 5)) 82 8 (h2.1 82 6)) (rV fun h3 => h3.2.2 = ((sI (sI h2 82 7 (h2.1 82 5)) 82 8 (h2.1 82 6))).2.2 ∧ Q (some (.int (h3.1 82 56))) h3)) ∧ (¬ (h2.1 82 5) = 0 → Q (some (.int (-1))) (sI (sI (sI h2 82 7 (h2.1 82 5)) 82 8 (h2.1 82 6)) 84 1 ((h2.1 84 1) + 1))))) ∧ (¬ v2 = (-1) → gC l G d MX12_statementTold [.ref 82] h2 (rV fun h4 => h4.2.2 = (h2).2.2 ∧ gg p l e s m args below meth c G (d + 1) MX12_lake Q 115 [some (.ref 82), some (.int x1)] [] h4))))))) : gg p l e s m args below meth c G (d + 1) MX12_lake Q 115 [some (.ref 82), some (.int x1)] [] h := by
  refine go_aload_n (x := 82) dX12_lake_115 rfl ?_
  refine go_getI' (v := (h.1 82 5)) dX12_lake_116 f12_278 sh82 (fun _ _ => rfl) rfl ?_
  refine go_if_ne 137 dX12_lake_119 rfl (fun q => ?_) (fun q => ?_)
  · replace vc := vc.1 q
    refine go_aload_n (x := 82) dX12_lake_137 rfl ?_
    refine go_aload_n (x := 82) dX12_lake_138 rfl ?_
    refine go_getI' (v := (h.1 82 5)) dX12_lake_139 f12_278 sh82 (fun _ _ => rfl) rfl ?_
    refine go_putI dX12_lake_142 f12_416 sh82 rfl rfl ?_
    refine go_aload_n (x := 82) dX12_lake_145 rfl ?_
    refine go_aload_n (x := 82) dX12_lake_146 rfl ?_
    refine go_getI' (v := (h.1 82 6)) dX12_lake_147 f12_281 sh82 (fun _ _ => rfl) rfl ?_
    refine go_putI dX12_lake_150 f12_13 sh82 rfl rfl ?_
    refine go_aload_n (x := 82) dX12_lake_153 rfl ?_
    refine go_getI' (v := (h.1 82 5)) dX12_lake_154 f12_278 sh82 (fun _ _ => rfl) rfl ?_
    refine go_if_eq 172 dX12_lake_157 rfl (fun q => ?_) (fun q => ?_)
    · replace vc := vc.1 q
      refine go_aload_n (x := 82) dX12_lake_172 rfl ?_
      refine gvV0 MX12_stands dX12_lake_173 lX12_419 kX12_stands vX12_stands sh82 (by decide) rfl (Nat.le_of_ble_eq_true rfl) vc ?_
      intro h1 vc
      obtain ⟨hR1, vc⟩ := vc
      replace hR := hR1.trans hR
      refine go_aload_n (x := 82) dX12_lake_176 rfl ?_
      refine go_getI' (v := (h1.1 82 56)) dX12_lake_177 f12_389 sh82 (fun _ _ => rfl) rfl ?_
      exact go_iret dX12_lake_180 rfl vc rfl (Nat.le_refl _) (Nat.le_refl _)
    · replace vc := vc.2 q
      refine go_aload_n (x := 82) dX12_lake_160 rfl ?_
      refine go_getR (x := 84) dX12_lake_161 f12_17 sh82 (fun _ _ => rfl) (rf82_9 hR) ?_
      refine go_iconst (v := 1) dX12_lake_164 rfl ?_
      refine go_dup2 dX12_lake_165 rfl rfl ?_
      refine go_iald' (v := (h.1 84 1)) dX12_lake_166 sh84 (by unfold vp_in; decide) rfl ?_
      refine go_iconst (v := 1) dX12_lake_167 rfl ?_
      refine go_iadd dX12_lake_168 ?_
      refine go_iast dX12_lake_169 sh84 (by unfold vp_in; decide) ?_
      refine go_iconst (v := (-1)) dX12_lake_170 rfl ?_
      exact go_iret dX12_lake_171 rfl vc rfl (Nat.le_refl _) (Nat.le_refl _)
  · replace vc := vc.2 q
    refine go_aload_n (x := 82) dX12_lake_122 rfl ?_
    refine gvI0 MX12_look dX12_lake_123 lX12_290 kX12_look vX12_look sh82 (by decide) rfl (Nat.le_of_ble_eq_true rfl) vc ?_
    intro v2 h2 vc
    obtain ⟨hR2, vc⟩ := vc
    replace hR := hR2.trans hR
    refine go_iconst (v := (-1)) dX12_lake_126 rfl ?_
    refine go_icmp_eq 137 dX12_lake_127 rfl (fun q => ?_) (fun q => ?_)
    · replace vc := vc.1 q
      refine go_aload_n (x := 82) dX12_lake_137 rfl ?_
      refine go_aload_n (x := 82) dX12_lake_138 rfl ?_
      refine go_getI' (v := (h2.1 82 5)) dX12_lake_139 f12_278 sh82 (fun _ _ => rfl) rfl ?_
      refine go_putI dX12_lake_142 f12_416 sh82 rfl rfl ?_
      refine go_aload_n (x := 82) dX12_lake_145 rfl ?_
      refine go_aload_n (x := 82) dX12_lake_146 rfl ?_
      refine go_getI' (v := (h2.1 82 6)) dX12_lake_147 f12_281 sh82 (fun _ _ => rfl) rfl ?_
      refine go_putI dX12_lake_150 f12_13 sh82 rfl rfl ?_
      refine go_aload_n (x := 82) dX12_lake_153 rfl ?_
      refine go_getI' (v := (h2.1 82 5)) dX12_lake_154 f12_278 sh82 (fun _ _ => rfl) rfl ?_
      refine go_if_eq 172 dX12_lake_157 rfl (fun q => ?_) (fun q => ?_)
      · replace vc := vc.1 q
        refine go_aload_n (x := 82) dX12_lake_172 rfl ?_
        refine gvV0 MX12_stands dX12_lake_173 lX12_419 kX12_stands vX12_stands sh82 (by decide) rfl (Nat.le_of_ble_eq_true rfl) vc ?_
        intro h3 vc
        obtain ⟨hR3, vc⟩ := vc
        replace hR := hR3.trans hR
        refine go_aload_n (x := 82) dX12_lake_176 rfl ?_
        refine go_getI' (v := (h3.1 82 56)) dX12_lake_177 f12_389 sh82 (fun _ _ => rfl) rfl ?_
        exact go_iret dX12_lake_180 rfl vc rfl (Nat.le_refl _) (Nat.le_refl _)
      · replace vc := vc.2 q
        refine go_aload_n (x := 82) dX12_lake_160 rfl ?_
        refine go_getR (x := 84) dX12_lake_161 f12_17 sh82 (fun _ _ => rfl) (rf82_9 hR) ?_
        refine go_iconst (v := 1) dX12_lake_164 rfl ?_
        refine go_dup2 dX12_lake_165 rfl rfl ?_
        refine go_iald' (v := (h2.1 84 1)) dX12_lake_166 sh84 (by unfold vp_in; decide) rfl ?_
        refine go_iconst (v := 1) dX12_lake_167 rfl ?_
        refine go_iadd dX12_lake_168 ?_
        refine go_iast dX12_lake_169 sh84 (by unfold vp_in; decide) ?_
        refine go_iconst (v := (-1)) dX12_lake_170 rfl ?_
        exact go_iret dX12_lake_171 rfl vc rfl (Nat.le_refl _) (Nat.le_refl _)
    · replace vc := vc.2 q
      refine go_aload_n (x := 82) dX12_lake_130 rfl ?_
      refine gvV0 MX12_statementTold dX12_lake_131 lX12_413 kX12_statementTold vX12_statementTold sh82 (by decide) rfl (Nat.le_of_ble_eq_true rfl) vc ?_
      intro h4 vc
      obtain ⟨hR4, vc⟩ := vc
      replace hR := hR4.trans hR
      refine go_goto 115 dX12_lake_134 rfl ?_
      exact vc
set_option maxRecDepth 20000 in
theorem wX12_stands_0 {p : Program} {l : Launch} {e : Env} {s : State} {m : MethodId} {args : Array Value} {below : List Frame} {meth : Method} {c : Code} {G : gG} {d : Nat} {Q : Option Value → gH → Prop} {h : gH} {lk sp : Nat} {cd : Option Nat}  (hR : h.2.2 = gRF lk sp cd) (hlk : lk = 30 ∨ lk = 67) (hsp : sp = 30 ∨ sp = 67)  (vc : gg p l e s m args below meth c G d MX12_stands Q 7 [some (.ref 82), some (.int 0)] [] (sI h 82 58 1)) : gg p l e s m args below meth c G d MX12_stands Q 0 [some (.ref 82), none] [] h := by
  refine go_aload_n (x := 82) dX12_stands_0 rfl ?_
  refine go_iconst (v := 1) dX12_stands_1 rfl ?_
  refine go_putZ dX12_stands_2 f12_422 sh82 rfl rfl (by decide) ?_
  refine go_iconst (v := 0) dX12_stands_5 rfl ?_
  refine go_istore_n dX12_stands_6 (Nat.le_of_ble_eq_true rfl) ?_
  show gg p l e s m args below meth c G d MX12_stands Q 7 [some (.ref 82), some (.int 0)] [] (sI h 82 58 1)
  exact vc
set_option maxRecDepth 20000 in
theorem wX12_stands_7 {p : Program} {l : Launch} {e : Env} {s : State} {m : MethodId} {args : Array Value} {below : List Frame} {meth : Method} {c : Code} {G : gG} {d : Nat} {Q : Option Value → gH → Prop} {h : gH} {lk sp : Nat} {cd : Option Nat} {x1 : Int32} (hR : h.2.2 = gRF lk sp cd) (hlk : lk = 30 ∨ lk = 67) (hsp : sp = 30 ∨ sp = 67)  (vc : ((5 ≤ x1 → gg p l e s m args below meth c G d MX12_stands Q 34 [some (.ref 82), some (.int 0)] [] h) ∧ (¬ 5 ≤ x1 → (vp_in x1 10 ∧ (vp_in ((5 + x1)) 10 ∧ gg p l e s m args below meth c G d MX12_stands Q 7 [some (.ref 82), some (.int (x1 + 1))] [] (sI h 119 ((5 + x1) : Int32).toNatClampNeg (h.1 119 x1.toNatClampNeg))))))) : gg p l e s m args below meth c G d MX12_stands Q 7 [some (.ref 82), some (.int x1)] [] h := by
  refine go_iload_n (x := x1) dX12_stands_7 rfl ?_
  refine go_iconst (v := 5) dX12_stands_8 rfl ?_
  refine go_icmp_ge 32 dX12_stands_9 rfl (fun q => ?_) (fun q => ?_)
  · replace vc := vc.1 q
    refine go_iconst (v := 0) dX12_stands_32 rfl ?_
    refine go_istore_n dX12_stands_33 (Nat.le_of_ble_eq_true rfl) ?_
    show gg p l e s m args below meth c G d MX12_stands Q 34 [some (.ref 82), some (.int 0)] [] h
    exact vc
  · replace vc := vc.2 q
    refine go_aload_n (x := 82) dX12_stands_12 rfl ?_
    refine go_getR (x := 119) dX12_stands_13 f12_123 sh82 (fun _ _ => rfl) (rf82_46 hR) ?_
    refine go_iconst (v := 5) dX12_stands_16 rfl ?_
    refine go_iload_n (x := x1) dX12_stands_17 rfl ?_
    refine go_iadd dX12_stands_18 ?_
    refine go_aload_n (x := 82) dX12_stands_19 rfl ?_
    refine go_getR (x := 119) dX12_stands_20 f12_123 sh82 (fun _ _ => rfl) (rf82_46 hR) ?_
    refine go_iload_n (x := x1) dX12_stands_23 rfl ?_
    refine go_iald' (v := (h.1 119 x1.toNatClampNeg)) dX12_stands_24 sh119 vc.1 rfl ?_
    have vc := vc.2
    refine go_iast dX12_stands_25 sh119 vc.1 ?_
    have vc := vc.2
    show gg p l e s m args below meth c G d MX12_stands Q 26 [some (.ref 82), some (.int x1)] [] (sI h 119 ((5 + x1) : Int32).toNatClampNeg (h.1 119 x1.toNatClampNeg))
    refine go_iinc (x := x1) dX12_stands_26 rfl ?_
    show gg p l e s m args below meth c G d MX12_stands Q 29 [some (.ref 82), some (.int (x1 + 1))] [] (sI h 119 ((5 + x1) : Int32).toNatClampNeg (h.1 119 x1.toNatClampNeg))
    refine go_goto 7 dX12_stands_29 rfl ?_
    exact vc
set_option maxRecDepth 20000 in
theorem wX12_stands_34 {p : Program} {l : Launch} {e : Env} {s : State} {m : MethodId} {args : Array Value} {below : List Frame} {meth : Method} {c : Code} {G : gG} {d : Nat} {Q : Option Value → gH → Prop} {h : gH} {lk sp : Nat} {cd : Option Nat} {x1 : Int32} (hR : h.2.2 = gRF lk sp cd) (hlk : lk = 30 ∨ lk = 67) (hsp : sp = 30 ∨ sp = 67)  (vc : ((12 ≤ x1 → gg p l e s m args below meth c G d MX12_stands Q 78 [some (.ref 82), some (.int 0)] [] h) ∧ (¬ 12 ≤ x1 → (vp_in x1 24 ∧ (vp_in ((12 + x1)) 24 ∧ (vp_in x1 24 ∧ (vp_in ((12 + x1)) 24 ∧ gg p l e s m args below meth c G d MX12_stands Q 34 [some (.ref 82), some (.int (x1 + 1))] [] (sI (sL h 120 ((12 + x1) : Int32).toNatClampNeg (h.2.1 120 x1.toNatClampNeg)) 122 ((12 + x1) : Int32).toNatClampNeg (h.1 122 x1.toNatClampNeg))))))))) : gg p l e s m args below meth c G d MX12_stands Q 34 [some (.ref 82), some (.int x1)] [] h := by
  refine go_iload_n (x := x1) dX12_stands_34 rfl ?_
  refine go_bipush (v := 12) dX12_stands_35 rfl ?_
  refine go_icmp_ge 76 dX12_stands_37 rfl (fun q => ?_) (fun q => ?_)
  · replace vc := vc.1 q
    refine go_iconst (v := 0) dX12_stands_76 rfl ?_
    refine go_istore_n dX12_stands_77 (Nat.le_of_ble_eq_true rfl) ?_
    show gg p l e s m args below meth c G d MX12_stands Q 78 [some (.ref 82), some (.int 0)] [] h
    exact vc
  · replace vc := vc.2 q
    refine go_aload_n (x := 82) dX12_stands_40 rfl ?_
    refine go_getR (x := 120) dX12_stands_41 f12_126 sh82 (fun _ _ => rfl) (rf82_47 hR) ?_
    refine go_bipush (v := 12) dX12_stands_44 rfl ?_
    refine go_iload_n (x := x1) dX12_stands_46 rfl ?_
    refine go_iadd dX12_stands_47 ?_
    refine go_aload_n (x := 82) dX12_stands_48 rfl ?_
    refine go_getR (x := 120) dX12_stands_49 f12_126 sh82 (fun _ _ => rfl) (rf82_47 hR) ?_
    refine go_iload_n (x := x1) dX12_stands_52 rfl ?_
    refine go_lald' (v := (h.2.1 120 x1.toNatClampNeg)) dX12_stands_53 sh120 vc.1 rfl ?_
    have vc := vc.2
    refine go_last dX12_stands_54 sh120 vc.1 ?_
    have vc := vc.2
    show gg p l e s m args below meth c G d MX12_stands Q 55 [some (.ref 82), some (.int x1)] [] (sL h 120 ((12 + x1) : Int32).toNatClampNeg (h.2.1 120 x1.toNatClampNeg))
    refine go_aload_n (x := 82) dX12_stands_55 rfl ?_
    refine go_getR (x := 122) dX12_stands_56 f12_133 sh82 (fun _ _ => rfl) (rf82_49 hR) ?_
    refine go_bipush (v := 12) dX12_stands_59 rfl ?_
    refine go_iload_n (x := x1) dX12_stands_61 rfl ?_
    refine go_iadd dX12_stands_62 ?_
    refine go_aload_n (x := 82) dX12_stands_63 rfl ?_
    refine go_getR (x := 122) dX12_stands_64 f12_133 sh82 (fun _ _ => rfl) (rf82_49 hR) ?_
    refine go_iload_n (x := x1) dX12_stands_67 rfl ?_
    refine go_iald' (v := (h.1 122 x1.toNatClampNeg)) dX12_stands_68 sh122 vc.1 rfl ?_
    have vc := vc.2
    refine go_iast dX12_stands_69 sh122 vc.1 ?_
    have vc := vc.2
    show gg p l e s m args below meth c G d MX12_stands Q 70 [some (.ref 82), some (.int x1)] [] (sI (sL h 120 ((12 + x1) : Int32).toNatClampNeg (h.2.1 120 x1.toNatClampNeg)) 122 ((12 + x1) : Int32).toNatClampNeg (h.1 122 x1.toNatClampNeg))
    refine go_iinc (x := x1) dX12_stands_70 rfl ?_
    show gg p l e s m args below meth c G d MX12_stands Q 73 [some (.ref 82), some (.int (x1 + 1))] [] (sI (sL h 120 ((12 + x1) : Int32).toNatClampNeg (h.2.1 120 x1.toNatClampNeg)) 122 ((12 + x1) : Int32).toNatClampNeg (h.1 122 x1.toNatClampNeg))
    refine go_goto 34 dX12_stands_73 rfl ?_
    exact vc
set_option maxRecDepth 20000 in
theorem wX12_stands_78 {p : Program} {l : Launch} {e : Env} {s : State} {m : MethodId} {args : Array Value} {below : List Frame} {meth : Method} {c : Code} {G : gG} {d : Nat} {Q : Option Value → gH → Prop} {h : gH} {lk sp : Nat} {cd : Option Nat} {x1 : Int32} (hR : h.2.2 = gRF lk sp cd) (hlk : lk = 30 ∨ lk = 67) (hsp : sp = 30 ∨ sp = 67)  (vc : ((48 ≤ x1 → gg p l e s m args below meth c G d MX12_stands Q 107 [some (.ref 82), some (.int 0)] [] h) ∧ (¬ 48 ≤ x1 → (vp_in x1 96 ∧ (vp_in ((48 + x1)) 96 ∧ gg p l e s m args below meth c G d MX12_stands Q 78 [some (.ref 82), some (.int (x1 + 1))] [] (sI h 121 ((48 + x1) : Int32).toNatClampNeg (h.1 121 x1.toNatClampNeg))))))) : gg p l e s m args below meth c G d MX12_stands Q 78 [some (.ref 82), some (.int x1)] [] h := by
  refine go_iload_n (x := x1) dX12_stands_78 rfl ?_
  refine go_bipush (v := 48) dX12_stands_79 rfl ?_
  refine go_icmp_ge 105 dX12_stands_81 rfl (fun q => ?_) (fun q => ?_)
  · replace vc := vc.1 q
    refine go_iconst (v := 0) dX12_stands_105 rfl ?_
    refine go_istore_n dX12_stands_106 (Nat.le_of_ble_eq_true rfl) ?_
    show gg p l e s m args below meth c G d MX12_stands Q 107 [some (.ref 82), some (.int 0)] [] h
    exact vc
  · replace vc := vc.2 q
    refine go_aload_n (x := 82) dX12_stands_84 rfl ?_
    refine go_getR (x := 121) dX12_stands_85 f12_130 sh82 (fun _ _ => rfl) (rf82_48 hR) ?_
    refine go_bipush (v := 48) dX12_stands_88 rfl ?_
    refine go_iload_n (x := x1) dX12_stands_90 rfl ?_
    refine go_iadd dX12_stands_91 ?_
    refine go_aload_n (x := 82) dX12_stands_92 rfl ?_
    refine go_getR (x := 121) dX12_stands_93 f12_130 sh82 (fun _ _ => rfl) (rf82_48 hR) ?_
    refine go_iload_n (x := x1) dX12_stands_96 rfl ?_
    refine go_iald' (v := (h.1 121 x1.toNatClampNeg)) dX12_stands_97 sh121 vc.1 rfl ?_
    have vc := vc.2
    refine go_iast dX12_stands_98 sh121 vc.1 ?_
    have vc := vc.2
    show gg p l e s m args below meth c G d MX12_stands Q 99 [some (.ref 82), some (.int x1)] [] (sI h 121 ((48 + x1) : Int32).toNatClampNeg (h.1 121 x1.toNatClampNeg))
    refine go_iinc (x := x1) dX12_stands_99 rfl ?_
    show gg p l e s m args below meth c G d MX12_stands Q 102 [some (.ref 82), some (.int (x1 + 1))] [] (sI h 121 ((48 + x1) : Int32).toNatClampNeg (h.1 121 x1.toNatClampNeg))
    refine go_goto 78 dX12_stands_102 rfl ?_
    exact vc
set_option maxRecDepth 20000 in
theorem wX12_stands_107 {p : Program} {l : Launch} {e : Env} {s : State} {m : MethodId} {args : Array Value} {below : List Frame} {meth : Method} {c : Code} {G : gG} {d : Nat} {Q : Option Value → gH → Prop} {h : gH} {lk sp : Nat} {cd : Option Nat} {x1 : Int32} (hR : h.2.2 = gRF lk sp cd) (hlk : lk = 30 ∨ lk = 67) (hsp : sp = 30 ∨ sp = 67)  (vc : ((6 ≤ x1 → gg p l e s m args below meth c G d MX12_stands Q 136 [some (.ref 82), some (.int 0)] [] h) ∧ (¬ 6 ≤ x1 → (vp_in x1 12 ∧ (vp_in ((6 + x1)) 12 ∧ gg p l e s m args below meth c G d MX12_stands Q 107 [some (.ref 82), some (.int (x1 + 1))] [] (sI h 123 ((6 + x1) : Int32).toNatClampNeg (h.1 123 x1.toNatClampNeg))))))) : gg p l e s m args below meth c G d MX12_stands Q 107 [some (.ref 82), some (.int x1)] [] h := by
  refine go_iload_n (x := x1) dX12_stands_107 rfl ?_
  refine go_bipush (v := 6) dX12_stands_108 rfl ?_
  refine go_icmp_ge 134 dX12_stands_110 rfl (fun q => ?_) (fun q => ?_)
  · replace vc := vc.1 q
    refine go_iconst (v := 0) dX12_stands_134 rfl ?_
    refine go_istore_n dX12_stands_135 (Nat.le_of_ble_eq_true rfl) ?_
    show gg p l e s m args below meth c G d MX12_stands Q 136 [some (.ref 82), some (.int 0)] [] h
    exact vc
  · replace vc := vc.2 q
    refine go_aload_n (x := 82) dX12_stands_113 rfl ?_
    refine go_getR (x := 123) dX12_stands_114 f12_136 sh82 (fun _ _ => rfl) (rf82_50 hR) ?_
    refine go_bipush (v := 6) dX12_stands_117 rfl ?_
    refine go_iload_n (x := x1) dX12_stands_119 rfl ?_
    refine go_iadd dX12_stands_120 ?_
    refine go_aload_n (x := 82) dX12_stands_121 rfl ?_
    refine go_getR (x := 123) dX12_stands_122 f12_136 sh82 (fun _ _ => rfl) (rf82_50 hR) ?_
    refine go_iload_n (x := x1) dX12_stands_125 rfl ?_
    refine go_iald' (v := (h.1 123 x1.toNatClampNeg)) dX12_stands_126 sh123 vc.1 rfl ?_
    have vc := vc.2
    refine go_iast dX12_stands_127 sh123 vc.1 ?_
    have vc := vc.2
    show gg p l e s m args below meth c G d MX12_stands Q 128 [some (.ref 82), some (.int x1)] [] (sI h 123 ((6 + x1) : Int32).toNatClampNeg (h.1 123 x1.toNatClampNeg))
    refine go_iinc (x := x1) dX12_stands_128 rfl ?_
    show gg p l e s m args below meth c G d MX12_stands Q 131 [some (.ref 82), some (.int (x1 + 1))] [] (sI h 123 ((6 + x1) : Int32).toNatClampNeg (h.1 123 x1.toNatClampNeg))
    refine go_goto 107 dX12_stands_131 rfl ?_
    exact vc
set_option maxRecDepth 20000 in
theorem wX12_stands_136 {p : Program} {l : Launch} {e : Env} {s : State} {m : MethodId} {args : Array Value} {below : List Frame} {meth : Method} {c : Code} {G : gG} {d : Nat} {Q : Option Value → gH → Prop} {h : gH} {lk sp : Nat} {cd : Option Nat} {x1 : Int32} (hR : h.2.2 = gRF lk sp cd) (hlk : lk = 30 ∨ lk = 67) (hsp : sp = 30 ∨ sp = 67)  (vc : ((36 ≤ x1 → gg p l e s m args below meth c G d MX12_stands Q 165 [some (.ref 82), some (.int 0)] [] h) ∧ (¬ 36 ≤ x1 → (vp_in x1 72 ∧ (vp_in ((36 + x1)) 72 ∧ gg p l e s m args below meth c G d MX12_stands Q 136 [some (.ref 82), some (.int (x1 + 1))] [] (sI h 124 ((36 + x1) : Int32).toNatClampNeg (h.1 124 x1.toNatClampNeg))))))) : gg p l e s m args below meth c G d MX12_stands Q 136 [some (.ref 82), some (.int x1)] [] h := by
  refine go_iload_n (x := x1) dX12_stands_136 rfl ?_
  refine go_bipush (v := 36) dX12_stands_137 rfl ?_
  refine go_icmp_ge 163 dX12_stands_139 rfl (fun q => ?_) (fun q => ?_)
  · replace vc := vc.1 q
    refine go_iconst (v := 0) dX12_stands_163 rfl ?_
    refine go_istore_n dX12_stands_164 (Nat.le_of_ble_eq_true rfl) ?_
    show gg p l e s m args below meth c G d MX12_stands Q 165 [some (.ref 82), some (.int 0)] [] h
    exact vc
  · replace vc := vc.2 q
    refine go_aload_n (x := 82) dX12_stands_142 rfl ?_
    refine go_getR (x := 124) dX12_stands_143 f12_139 sh82 (fun _ _ => rfl) (rf82_51 hR) ?_
    refine go_bipush (v := 36) dX12_stands_146 rfl ?_
    refine go_iload_n (x := x1) dX12_stands_148 rfl ?_
    refine go_iadd dX12_stands_149 ?_
    refine go_aload_n (x := 82) dX12_stands_150 rfl ?_
    refine go_getR (x := 124) dX12_stands_151 f12_139 sh82 (fun _ _ => rfl) (rf82_51 hR) ?_
    refine go_iload_n (x := x1) dX12_stands_154 rfl ?_
    refine go_iald' (v := (h.1 124 x1.toNatClampNeg)) dX12_stands_155 sh124 vc.1 rfl ?_
    have vc := vc.2
    refine go_iast dX12_stands_156 sh124 vc.1 ?_
    have vc := vc.2
    show gg p l e s m args below meth c G d MX12_stands Q 157 [some (.ref 82), some (.int x1)] [] (sI h 124 ((36 + x1) : Int32).toNatClampNeg (h.1 124 x1.toNatClampNeg))
    refine go_iinc (x := x1) dX12_stands_157 rfl ?_
    show gg p l e s m args below meth c G d MX12_stands Q 160 [some (.ref 82), some (.int (x1 + 1))] [] (sI h 124 ((36 + x1) : Int32).toNatClampNeg (h.1 124 x1.toNatClampNeg))
    refine go_goto 136 dX12_stands_160 rfl ?_
    exact vc
set_option maxRecDepth 20000 in
theorem wX12_stands_165 {p : Program} {l : Launch} {e : Env} {s : State} {m : MethodId} {args : Array Value} {below : List Frame} {meth : Method} {c : Code} {G : gG} {d : Nat} {Q : Option Value → gH → Prop} {h : gH} {lk sp : Nat} {cd : Option Nat} {x1 : Int32} (hR : h.2.2 = gRF lk sp cd) (hlk : lk = 30 ∨ lk = 67) (hsp : sp = 30 ∨ sp = 67)  (vc : ((20 ≤ x1 → gg p l e s m args below meth c G d MX12_stands Q 194 [some (.ref 82), some (.int 0)] [] h) ∧ (¬ 20 ≤ x1 → (vp_in x1 40 ∧ (vp_in ((20 + x1)) 40 ∧ gg p l e s m args below meth c G d MX12_stands Q 165 [some (.ref 82), some (.int (x1 + 1))] [] (sI h 125 ((20 + x1) : Int32).toNatClampNeg (h.1 125 x1.toNatClampNeg))))))) : gg p l e s m args below meth c G d MX12_stands Q 165 [some (.ref 82), some (.int x1)] [] h := by
  refine go_iload_n (x := x1) dX12_stands_165 rfl ?_
  refine go_bipush (v := 20) dX12_stands_166 rfl ?_
  refine go_icmp_ge 192 dX12_stands_168 rfl (fun q => ?_) (fun q => ?_)
  · replace vc := vc.1 q
    refine go_iconst (v := 0) dX12_stands_192 rfl ?_
    refine go_istore_n dX12_stands_193 (Nat.le_of_ble_eq_true rfl) ?_
    show gg p l e s m args below meth c G d MX12_stands Q 194 [some (.ref 82), some (.int 0)] [] h
    exact vc
  · replace vc := vc.2 q
    refine go_aload_n (x := 82) dX12_stands_171 rfl ?_
    refine go_getR (x := 125) dX12_stands_172 f12_142 sh82 (fun _ _ => rfl) (rf82_52 hR) ?_
    refine go_bipush (v := 20) dX12_stands_175 rfl ?_
    refine go_iload_n (x := x1) dX12_stands_177 rfl ?_
    refine go_iadd dX12_stands_178 ?_
    refine go_aload_n (x := 82) dX12_stands_179 rfl ?_
    refine go_getR (x := 125) dX12_stands_180 f12_142 sh82 (fun _ _ => rfl) (rf82_52 hR) ?_
    refine go_iload_n (x := x1) dX12_stands_183 rfl ?_
    refine go_iald' (v := (h.1 125 x1.toNatClampNeg)) dX12_stands_184 sh125 vc.1 rfl ?_
    have vc := vc.2
    refine go_iast dX12_stands_185 sh125 vc.1 ?_
    have vc := vc.2
    show gg p l e s m args below meth c G d MX12_stands Q 186 [some (.ref 82), some (.int x1)] [] (sI h 125 ((20 + x1) : Int32).toNatClampNeg (h.1 125 x1.toNatClampNeg))
    refine go_iinc (x := x1) dX12_stands_186 rfl ?_
    show gg p l e s m args below meth c G d MX12_stands Q 189 [some (.ref 82), some (.int (x1 + 1))] [] (sI h 125 ((20 + x1) : Int32).toNatClampNeg (h.1 125 x1.toNatClampNeg))
    refine go_goto 165 dX12_stands_189 rfl ?_
    exact vc
set_option maxRecDepth 20000 in
theorem wX12_stands_194 {p : Program} {l : Launch} {e : Env} {s : State} {m : MethodId} {args : Array Value} {below : List Frame} {meth : Method} {c : Code} {G : gG} {d : Nat} {Q : Option Value → gH → Prop} {h : gH} {lk sp : Nat} {cd : Option Nat} {x1 : Int32} (hR : h.2.2 = gRF lk sp cd) (hlk : lk = 30 ∨ lk = 67) (hsp : sp = 30 ∨ sp = 67)  (vc : ((3 ≤ x1 → gg p l e s m args below meth c G d MX12_stands Q 235 [some (.ref 82), some (.int 0)] [] h) ∧ (¬ 3 ≤ x1 → (vp_in x1 6 ∧ (vp_in ((3 + x1)) 6 ∧ (vp_in x1 6 ∧ (vp_in ((3 + x1)) 6 ∧ gg p l e s m args below meth c G d MX12_stands Q 194 [some (.ref 82), some (.int (x1 + 1))] [] (sI (sI h 127 ((3 + x1) : Int32).toNatClampNeg (h.1 127 x1.toNatClampNeg)) 128 ((3 + x1) : Int32).toNatClampNeg (h.1 128 x1.toNatClampNeg))))))))) : gg p l e s m args below meth c G d MX12_stands Q 194 [some (.ref 82), some (.int x1)] [] h := by
  refine go_iload_n (x := x1) dX12_stands_194 rfl ?_
  refine go_iconst (v := 3) dX12_stands_195 rfl ?_
  refine go_icmp_ge 233 dX12_stands_196 rfl (fun q => ?_) (fun q => ?_)
  · replace vc := vc.1 q
    refine go_iconst (v := 0) dX12_stands_233 rfl ?_
    refine go_istore_n dX12_stands_234 (Nat.le_of_ble_eq_true rfl) ?_
    show gg p l e s m args below meth c G d MX12_stands Q 235 [some (.ref 82), some (.int 0)] [] h
    exact vc
  · replace vc := vc.2 q
    refine go_aload_n (x := 82) dX12_stands_199 rfl ?_
    refine go_getR (x := 127) dX12_stands_200 f12_148 sh82 (fun _ _ => rfl) (rf82_54 hR) ?_
    refine go_iconst (v := 3) dX12_stands_203 rfl ?_
    refine go_iload_n (x := x1) dX12_stands_204 rfl ?_
    refine go_iadd dX12_stands_205 ?_
    refine go_aload_n (x := 82) dX12_stands_206 rfl ?_
    refine go_getR (x := 127) dX12_stands_207 f12_148 sh82 (fun _ _ => rfl) (rf82_54 hR) ?_
    refine go_iload_n (x := x1) dX12_stands_210 rfl ?_
    refine go_iald' (v := (h.1 127 x1.toNatClampNeg)) dX12_stands_211 sh127 vc.1 rfl ?_
    have vc := vc.2
    refine go_iast dX12_stands_212 sh127 vc.1 ?_
    have vc := vc.2
    show gg p l e s m args below meth c G d MX12_stands Q 213 [some (.ref 82), some (.int x1)] [] (sI h 127 ((3 + x1) : Int32).toNatClampNeg (h.1 127 x1.toNatClampNeg))
    refine go_aload_n (x := 82) dX12_stands_213 rfl ?_
    refine go_getR (x := 128) dX12_stands_214 f12_151 sh82 (fun _ _ => rfl) (rf82_55 hR) ?_
    refine go_iconst (v := 3) dX12_stands_217 rfl ?_
    refine go_iload_n (x := x1) dX12_stands_218 rfl ?_
    refine go_iadd dX12_stands_219 ?_
    refine go_aload_n (x := 82) dX12_stands_220 rfl ?_
    refine go_getR (x := 128) dX12_stands_221 f12_151 sh82 (fun _ _ => rfl) (rf82_55 hR) ?_
    refine go_iload_n (x := x1) dX12_stands_224 rfl ?_
    refine go_iald' (v := (h.1 128 x1.toNatClampNeg)) dX12_stands_225 sh128 vc.1 rfl ?_
    have vc := vc.2
    refine go_iast dX12_stands_226 sh128 vc.1 ?_
    have vc := vc.2
    show gg p l e s m args below meth c G d MX12_stands Q 227 [some (.ref 82), some (.int x1)] [] (sI (sI h 127 ((3 + x1) : Int32).toNatClampNeg (h.1 127 x1.toNatClampNeg)) 128 ((3 + x1) : Int32).toNatClampNeg (h.1 128 x1.toNatClampNeg))
    refine go_iinc (x := x1) dX12_stands_227 rfl ?_
    show gg p l e s m args below meth c G d MX12_stands Q 230 [some (.ref 82), some (.int (x1 + 1))] [] (sI (sI h 127 ((3 + x1) : Int32).toNatClampNeg (h.1 127 x1.toNatClampNeg)) 128 ((3 + x1) : Int32).toNatClampNeg (h.1 128 x1.toNatClampNeg))
    refine go_goto 194 dX12_stands_230 rfl ?_
    exact vc
set_option maxRecDepth 20000 in
theorem wX12_stands_235 {p : Program} {l : Launch} {e : Env} {s : State} {m : MethodId} {args : Array Value} {below : List Frame} {meth : Method} {c : Code} {G : gG} {d : Nat} {Q : Option Value → gH → Prop} {h : gH} {lk sp : Nat} {cd : Option Nat} {x1 : Int32} (hR : h.2.2 = gRF lk sp cd) (hlk : lk = 30 ∨ lk = 67) (hsp : sp = 30 ∨ sp = 67)  (vc : (((h.1 82 60) ≤ x1 → gg p l e s m args below meth c G d MX12_stands Q 279 [some (.ref 82), some (.int 0)] [] (sI h 126 1 (h.1 126 0))) ∧ (¬ (h.1 82 60) ≤ x1 → (vp_in x1 3200 ∧ (vp_in ((1600 + x1)) 3200 ∧ gg p l e s m args below meth c G d MX12_stands Q 235 [some (.ref 82), some (.int (x1 + 1))] [] (sI h 129 ((1600 + x1) : Int32).toNatClampNeg (h.1 129 x1.toNatClampNeg))))))) : gg p l e s m args below meth c G d MX12_stands Q 235 [some (.ref 82), some (.int x1)] [] h := by
  refine go_iload_n (x := x1) dX12_stands_235 rfl ?_
  refine go_aload_n (x := 82) dX12_stands_236 rfl ?_
  refine go_getI' (v := (h.1 82 60)) dX12_stands_237 f12_374 sh82 (fun _ _ => rfl) rfl ?_
  refine go_icmp_ge 265 dX12_stands_240 rfl (fun q => ?_) (fun q => ?_)
  · replace vc := vc.1 q
    refine go_aload_n (x := 82) dX12_stands_265 rfl ?_
    refine go_getR (x := 126) dX12_stands_266 f12_145 sh82 (fun _ _ => rfl) (rf82_53 hR) ?_
    refine go_iconst (v := 1) dX12_stands_269 rfl ?_
    refine go_aload_n (x := 82) dX12_stands_270 rfl ?_
    refine go_getR (x := 126) dX12_stands_271 f12_145 sh82 (fun _ _ => rfl) (rf82_53 hR) ?_
    refine go_iconst (v := 0) dX12_stands_274 rfl ?_
    refine go_iald' (v := (h.1 126 0)) dX12_stands_275 sh126 (by unfold vp_in; decide) rfl ?_
    refine go_iast dX12_stands_276 sh126 (by unfold vp_in; decide) ?_
    refine go_iconst (v := 0) dX12_stands_277 rfl ?_
    refine go_istore_n dX12_stands_278 (Nat.le_of_ble_eq_true rfl) ?_
    show gg p l e s m args below meth c G d MX12_stands Q 279 [some (.ref 82), some (.int 0)] [] (sI h 126 1 (h.1 126 0))
    exact vc
  · replace vc := vc.2 q
    refine go_aload_n (x := 82) dX12_stands_243 rfl ?_
    refine go_getR (x := 129) dX12_stands_244 f12_154 sh82 (fun _ _ => rfl) (rf82_59 hR) ?_
    refine go_sipush (v := 1600) dX12_stands_247 rfl ?_
    refine go_iload_n (x := x1) dX12_stands_250 rfl ?_
    refine go_iadd dX12_stands_251 ?_
    refine go_aload_n (x := 82) dX12_stands_252 rfl ?_
    refine go_getR (x := 129) dX12_stands_253 f12_154 sh82 (fun _ _ => rfl) (rf82_59 hR) ?_
    refine go_iload_n (x := x1) dX12_stands_256 rfl ?_
    refine go_iald' (v := (h.1 129 x1.toNatClampNeg)) dX12_stands_257 sh129 vc.1 rfl ?_
    have vc := vc.2
    refine go_iast dX12_stands_258 sh129 vc.1 ?_
    have vc := vc.2
    show gg p l e s m args below meth c G d MX12_stands Q 259 [some (.ref 82), some (.int x1)] [] (sI h 129 ((1600 + x1) : Int32).toNatClampNeg (h.1 129 x1.toNatClampNeg))
    refine go_iinc (x := x1) dX12_stands_259 rfl ?_
    show gg p l e s m args below meth c G d MX12_stands Q 262 [some (.ref 82), some (.int (x1 + 1))] [] (sI h 129 ((1600 + x1) : Int32).toNatClampNeg (h.1 129 x1.toNatClampNeg))
    refine go_goto 235 dX12_stands_262 rfl ?_
    exact vc
set_option maxRecDepth 20000 in
theorem wX12_stands_279 {p : Program} {l : Launch} {e : Env} {s : State} {m : MethodId} {args : Array Value} {below : List Frame} {meth : Method} {c : Code} {G : gG} {d : Nat} {Q : Option Value → gH → Prop} {h : gH} {lk sp : Nat} {cd : Option Nat} {x1 : Int32} (hR : h.2.2 = gRF lk sp cd) (hlk : lk = 30 ∨ lk = 67) (hsp : sp = 30 ∨ sp = 67)  (vc : ((187 ≤ x1 → gg p l e s m args below meth c G d MX12_stands Q 301 [some (.ref 82), some (.int 0)] [] h) ∧ (¬ 187 ≤ x1 → (vp_in x1 187 ∧ gg p l e s m args below meth c G d MX12_stands Q 279 [some (.ref 82), some (.int (x1 + 1))] [] (sI h 133 x1.toNatClampNeg 0))))) : gg p l e s m args below meth c G d MX12_stands Q 279 [some (.ref 82), some (.int x1)] [] h := by
  refine go_iload_n (x := x1) dX12_stands_279 rfl ?_
  refine go_sipush (v := 187) dX12_stands_280 rfl ?_
  refine go_icmp_ge 299 dX12_stands_283 rfl (fun q => ?_) (fun q => ?_)
  · replace vc := vc.1 q
    refine go_iconst (v := 0) dX12_stands_299 rfl ?_
    refine go_istore_n dX12_stands_300 (Nat.le_of_ble_eq_true rfl) ?_
    show gg p l e s m args below meth c G d MX12_stands Q 301 [some (.ref 82), some (.int 0)] [] h
    exact vc
  · replace vc := vc.2 q
    refine go_aload_n (x := 82) dX12_stands_286 rfl ?_
    refine go_getR (x := 133) dX12_stands_287 f12_166 sh82 (fun _ _ => rfl) (rf82_68 hR) ?_
    refine go_iload_n (x := x1) dX12_stands_290 rfl ?_
    refine go_iconst (v := 0) dX12_stands_291 rfl ?_
    refine go_iast dX12_stands_292 sh133 vc.1 ?_
    have vc := vc.2
    show gg p l e s m args below meth c G d MX12_stands Q 293 [some (.ref 82), some (.int x1)] [] (sI h 133 x1.toNatClampNeg 0)
    refine go_iinc (x := x1) dX12_stands_293 rfl ?_
    show gg p l e s m args below meth c G d MX12_stands Q 296 [some (.ref 82), some (.int (x1 + 1))] [] (sI h 133 x1.toNatClampNeg 0)
    refine go_goto 279 dX12_stands_296 rfl ?_
    exact vc
set_option maxRecDepth 20000 in
theorem wX12_stands_301 {p : Program} {l : Launch} {e : Env} {s : State} {m : MethodId} {args : Array Value} {below : List Frame} {meth : Method} {c : Code} {G : gG} {d : Nat} {Q : Option Value → gH → Prop} {h : gH} {lk sp : Nat} {cd : Option Nat} {x1 : Int32} (hR : h.2.2 = gRF lk sp cd) (hlk : lk = 30 ∨ lk = 67) (hsp : sp = 30 ∨ sp = 67)  (vc : (((h.1 119 2) ≤ x1 → Q none (sI (sI h 82 80 0) 82 76 0)) ∧ (¬ (h.1 119 2) ≤ x1 → (vp_in (((2 * x1) + 1)) 24 ∧ (vp_in ((2 + (4 * x1))) 187 ∧ (vp_in ((2 * x1)) 24 ∧ (vp_in (((2 + (4 * x1)) + 1)) 187 ∧ (vp_in (((2 + (4 * x1)) + 3)) 187 ∧ gg p l e s m args below meth c G d MX12_stands Q 301 [some (.ref 82), some (.int (x1 + 1))] [] (sI (sI (sI h 133 ((2 + (4 * x1)) : Int32).toNatClampNeg (h.1 122 (((2 * x1) + 1) : Int32).toNatClampNeg)) 133 (((2 + (4 * x1)) + 1) : Int32).toNatClampNeg (h.1 122 ((2 * x1) : Int32).toNatClampNeg)) 133 (((2 + (4 * x1)) + 3) : Int32).toNatClampNeg (-1)))))))))) : gg p l e s m args below meth c G d MX12_stands Q 301 [some (.ref 82), some (.int x1)] [] h := by
  refine go_iload_n (x := x1) dX12_stands_301 rfl ?_
  refine go_aload_n (x := 82) dX12_stands_302 rfl ?_
  refine go_getR (x := 119) dX12_stands_303 f12_123 sh82 (fun _ _ => rfl) (rf82_46 hR) ?_
  refine go_iconst (v := 2) dX12_stands_306 rfl ?_
  refine go_iald' (v := (h.1 119 2)) dX12_stands_307 sh119 (by unfold vp_in; decide) rfl ?_
  refine go_icmp_ge 370 dX12_stands_308 rfl (fun q => ?_) (fun q => ?_)
  · replace vc := vc.1 q
    refine go_aload_n (x := 82) dX12_stands_370 rfl ?_
    refine go_iconst (v := 0) dX12_stands_371 rfl ?_
    refine go_putI dX12_stands_372 f12_425 sh82 rfl rfl ?_
    refine go_aload_n (x := 82) dX12_stands_375 rfl ?_
    refine go_iconst (v := 0) dX12_stands_376 rfl ?_
    refine go_putI dX12_stands_377 f12_428 sh82 rfl rfl ?_
    exact go_vret dX12_stands_380 rfl vc rfl (Nat.le_refl _) (Nat.le_refl _)
  · replace vc := vc.2 q
    refine go_aload_n (x := 82) dX12_stands_311 rfl ?_
    refine go_getR (x := 133) dX12_stands_312 f12_166 sh82 (fun _ _ => rfl) (rf82_68 hR) ?_
    refine go_iconst (v := 2) dX12_stands_315 rfl ?_
    refine go_iconst (v := 4) dX12_stands_316 rfl ?_
    refine go_iload_n (x := x1) dX12_stands_317 rfl ?_
    refine go_imul dX12_stands_318 ?_
    refine go_iadd dX12_stands_319 ?_
    refine go_aload_n (x := 82) dX12_stands_320 rfl ?_
    refine go_getR (x := 122) dX12_stands_321 f12_133 sh82 (fun _ _ => rfl) (rf82_49 hR) ?_
    refine go_iconst (v := 2) dX12_stands_324 rfl ?_
    refine go_iload_n (x := x1) dX12_stands_325 rfl ?_
    refine go_imul dX12_stands_326 ?_
    refine go_iconst (v := 1) dX12_stands_327 rfl ?_
    refine go_iadd dX12_stands_328 ?_
    refine go_iald' (v := (h.1 122 (((2 * x1) + 1) : Int32).toNatClampNeg)) dX12_stands_329 sh122 vc.1 rfl ?_
    have vc := vc.2
    refine go_iast dX12_stands_330 sh133 vc.1 ?_
    have vc := vc.2
    show gg p l e s m args below meth c G d MX12_stands Q 331 [some (.ref 82), some (.int x1)] [] (sI h 133 ((2 + (4 * x1)) : Int32).toNatClampNeg (h.1 122 (((2 * x1) + 1) : Int32).toNatClampNeg))
    refine go_aload_n (x := 82) dX12_stands_331 rfl ?_
    refine go_getR (x := 133) dX12_stands_332 f12_166 sh82 (fun _ _ => rfl) (rf82_68 hR) ?_
    refine go_iconst (v := 2) dX12_stands_335 rfl ?_
    refine go_iconst (v := 4) dX12_stands_336 rfl ?_
    refine go_iload_n (x := x1) dX12_stands_337 rfl ?_
    refine go_imul dX12_stands_338 ?_
    refine go_iadd dX12_stands_339 ?_
    refine go_iconst (v := 1) dX12_stands_340 rfl ?_
    refine go_iadd dX12_stands_341 ?_
    refine go_aload_n (x := 82) dX12_stands_342 rfl ?_
    refine go_getR (x := 122) dX12_stands_343 f12_133 sh82 (fun _ _ => rfl) (rf82_49 hR) ?_
    refine go_iconst (v := 2) dX12_stands_346 rfl ?_
    refine go_iload_n (x := x1) dX12_stands_347 rfl ?_
    refine go_imul dX12_stands_348 ?_
    refine go_iald' (v := (h.1 122 ((2 * x1) : Int32).toNatClampNeg)) dX12_stands_349 sh122 vc.1 rfl ?_
    have vc := vc.2
    refine go_iast dX12_stands_350 sh133 vc.1 ?_
    have vc := vc.2
    show gg p l e s m args below meth c G d MX12_stands Q 351 [some (.ref 82), some (.int x1)] [] (sI (sI h 133 ((2 + (4 * x1)) : Int32).toNatClampNeg (h.1 122 (((2 * x1) + 1) : Int32).toNatClampNeg)) 133 (((2 + (4 * x1)) + 1) : Int32).toNatClampNeg (h.1 122 ((2 * x1) : Int32).toNatClampNeg))
    refine go_aload_n (x := 82) dX12_stands_351 rfl ?_
    refine go_getR (x := 133) dX12_stands_352 f12_166 sh82 (fun _ _ => rfl) (rf82_68 hR) ?_
    refine go_iconst (v := 2) dX12_stands_355 rfl ?_
    refine go_iconst (v := 4) dX12_stands_356 rfl ?_
    refine go_iload_n (x := x1) dX12_stands_357 rfl ?_
    refine go_imul dX12_stands_358 ?_
    refine go_iadd dX12_stands_359 ?_
    refine go_iconst (v := 3) dX12_stands_360 rfl ?_
    refine go_iadd dX12_stands_361 ?_
    refine go_iconst (v := (-1)) dX12_stands_362 rfl ?_
    refine go_iast dX12_stands_363 sh133 vc.1 ?_
    have vc := vc.2
    show gg p l e s m args below meth c G d MX12_stands Q 364 [some (.ref 82), some (.int x1)] [] (sI (sI (sI h 133 ((2 + (4 * x1)) : Int32).toNatClampNeg (h.1 122 (((2 * x1) + 1) : Int32).toNatClampNeg)) 133 (((2 + (4 * x1)) + 1) : Int32).toNatClampNeg (h.1 122 ((2 * x1) : Int32).toNatClampNeg)) 133 (((2 + (4 * x1)) + 3) : Int32).toNatClampNeg (-1))
    refine go_iinc (x := x1) dX12_stands_364 rfl ?_
    show gg p l e s m args below meth c G d MX12_stands Q 367 [some (.ref 82), some (.int (x1 + 1))] [] (sI (sI (sI h 133 ((2 + (4 * x1)) : Int32).toNatClampNeg (h.1 122 (((2 * x1) + 1) : Int32).toNatClampNeg)) 133 (((2 + (4 * x1)) + 1) : Int32).toNatClampNeg (h.1 122 ((2 * x1) : Int32).toNatClampNeg)) 133 (((2 + (4 * x1)) + 3) : Int32).toNatClampNeg (-1))
    refine go_goto 301 dX12_stands_367 rfl ?_
    exact vc
set_option maxRecDepth 20000 in
theorem wX12_code_0 {p : Program} {l : Launch} {e : Env} {s : State} {m : MethodId} {args : Array Value} {below : List Frame} {meth : Method} {c : Code} {G : gG} {d : Nat} {Q : Option Value → gH → Prop} {h : gH} {lk sp : Nat} {cd : Option Nat} {a1 : Int32} (hR : h.2.2 = gRF lk sp cd) (hlk : lk = 30 ∨ lk = 67) (hsp : sp = 30 ∨ sp = 67)  (vc : (vp_in ((0 + (h.1 82 60))) 3200 ∧ Q none (sI (sI h 129 ((0 + (h.1 82 60)) : Int32).toNatClampNeg a1) 82 60 ((h.1 82 60) + 1)))) : gg p l e s m args below meth c G d MX12_code Q 0 [some (.ref 82), some (.int a1)] [] h := by
  refine go_aload_n (x := 82) dX12_code_0 rfl ?_
  refine go_getR (x := 129) dX12_code_1 f12_154 sh82 (fun _ _ => rfl) (rf82_59 hR) ?_
  refine go_iconst (v := 0) dX12_code_4 rfl ?_
  refine go_aload_n (x := 82) dX12_code_5 rfl ?_
  refine go_getI' (v := (h.1 82 60)) dX12_code_6 f12_374 sh82 (fun _ _ => rfl) rfl ?_
  refine go_iadd dX12_code_9 ?_
  refine go_iload_n (x := a1) dX12_code_10 rfl ?_
  refine go_iast dX12_code_11 sh129 vc.1 ?_
  have vc := vc.2
  show gg p l e s m args below meth c G d MX12_code Q 12 [some (.ref 82), some (.int a1)] [] (sI h 129 ((0 + (h.1 82 60)) : Int32).toNatClampNeg a1)
  refine go_aload_n (x := 82) dX12_code_12 rfl ?_
  refine go_dup dX12_code_13 rfl ?_
  refine go_getI' (v := (h.1 82 60)) dX12_code_14 f12_374 sh82 (fun _ _ => rfl) rfl ?_
  refine go_iconst (v := 1) dX12_code_17 rfl ?_
  refine go_iadd dX12_code_18 ?_
  refine go_putI dX12_code_19 f12_374 sh82 rfl rfl ?_
  exact go_vret dX12_code_22 rfl vc rfl (Nat.le_refl _) (Nat.le_refl _)
set_option maxRecDepth 20000 in
theorem wX12_opens_0 {p : Program} {l : Launch} {e : Env} {s : State} {m : MethodId} {args : Array Value} {below : List Frame} {meth : Method} {c : Code} {G : gG} {d : Nat} {Q : Option Value → gH → Prop} {h : gH} {lk sp : Nat} {cd : Option Nat} {a1 : Int32} {a2 : Int32} (hR : h.2.2 = gRF lk sp cd) (hlk : lk = 30 ∨ lk = 67) (hsp : sp = 30 ∨ sp = 67)  (vc : ((¬ (h.1 82 63) = 6 → (vp_in ((h.1 82 62)) 1700 ∧ Q none (sI (sI (sI h 82 63 ((h.1 82 63) + 1)) 130 ((h.1 82 62) : Int32).toNatClampNeg a1) 82 62 ((h.1 82 62) + 1)))) ∧ ((h.1 82 63) = 6 → gC l G d MX12_fail [.ref 82, .int 4, .int a2] h (rV fun h1 => h1.2.2 = (h).2.2 ∧ Q none h1)))) : gg p l e s m args below meth c G (d + 1) MX12_opens Q 0 [some (.ref 82), some (.int a1), some (.int a2)] [] h := by
  refine go_aload_n (x := 82) dX12_opens_0 rfl ?_
  refine go_getI' (v := (h.1 82 63)) dX12_opens_1 f12_380 sh82 (fun _ _ => rfl) rfl ?_
  refine go_bipush (v := 6) dX12_opens_4 rfl ?_
  refine go_icmp_ne 16 dX12_opens_6 rfl (fun q => ?_) (fun q => ?_)
  · replace vc := vc.1 q
    refine go_aload_n (x := 82) dX12_opens_16 rfl ?_
    refine go_dup dX12_opens_17 rfl ?_
    refine go_getI' (v := (h.1 82 63)) dX12_opens_18 f12_380 sh82 (fun _ _ => rfl) rfl ?_
    refine go_iconst (v := 1) dX12_opens_21 rfl ?_
    refine go_iadd dX12_opens_22 ?_
    refine go_putI dX12_opens_23 f12_380 sh82 rfl rfl ?_
    refine go_aload_n (x := 82) dX12_opens_26 rfl ?_
    refine go_getR (x := 130) dX12_opens_27 f12_157 sh82 (fun _ _ => rfl) (rf82_61 hR) ?_
    refine go_aload_n (x := 82) dX12_opens_30 rfl ?_
    refine go_getI' (v := (h.1 82 62)) dX12_opens_31 f12_377 sh82 (fun _ _ => rfl) rfl ?_
    refine go_iload_n (x := a1) dX12_opens_34 rfl ?_
    refine go_iast dX12_opens_35 sh130 vc.1 ?_
    have vc := vc.2
    show gg p l e s m args below meth c G (d + 1) MX12_opens Q 36 [some (.ref 82), some (.int a1), some (.int a2)] [] (sI (sI h 82 63 ((h.1 82 63) + 1)) 130 ((h.1 82 62) : Int32).toNatClampNeg a1)
    refine go_aload_n (x := 82) dX12_opens_36 rfl ?_
    refine go_dup dX12_opens_37 rfl ?_
    refine go_getI' (v := (h.1 82 62)) dX12_opens_38 f12_377 sh82 (fun _ _ => rfl) rfl ?_
    refine go_iconst (v := 1) dX12_opens_41 rfl ?_
    refine go_iadd dX12_opens_42 ?_
    refine go_putI dX12_opens_43 f12_377 sh82 rfl rfl ?_
    exact go_vret dX12_opens_46 rfl vc rfl (Nat.le_refl _) (Nat.le_refl _)
  · replace vc := vc.2 q
    refine go_aload_n (x := 82) dX12_opens_9 rfl ?_
    refine go_iconst (v := 4) dX12_opens_10 rfl ?_
    refine go_iload_n (x := a2) dX12_opens_11 rfl ?_
    refine gvV2 MX12_fail dX12_opens_12 lX12_308 kX12_fail vX12_fail sh82 (by decide) rfl (Nat.le_of_ble_eq_true rfl) vc ?_
    intro h1 vc
    obtain ⟨hR1, vc⟩ := vc
    replace hR := hR1.trans hR
    exact go_vret dX12_opens_15 rfl vc rfl (Nat.le_refl _) (Nat.le_refl _)
set_option maxRecDepth 20000 in
theorem wX12_isOn_0 {p : Program} {l : Launch} {e : Env} {s : State} {m : MethodId} {args : Array Value} {below : List Frame} {meth : Method} {c : Code} {G : gG} {d : Nat} {Q : Option Value → gH → Prop} {h : gH} {lk sp : Nat} {cd : Option Nat} {a1 : Int32} (hR : h.2.2 = gRF lk sp cd) (hlk : lk = 30 ∨ lk = 67) (hsp : sp = 30 ∨ sp = 67)  (vc : (((h.1 82 62) ≤ 0 → Q (some (.int 0)) h) ∧ (¬ (h.1 82 62) ≤ 0 → (vp_in (((h.1 82 62) - 1)) 1700 ∧ ((¬ (h.1 130 (((h.1 82 62) - 1) : Int32).toNatClampNeg) = a1 → Q (some (.int 0)) h) ∧ ((h.1 130 (((h.1 82 62) - 1) : Int32).toNatClampNeg) = a1 → Q (some (.int 1)) h)))))) : gg p l e s m args below meth c G d MX12_isOn Q 0 [some (.ref 82), some (.int a1)] [] h := by
  refine go_aload_n (x := 82) dX12_isOn_0 rfl ?_
  refine go_getI' (v := (h.1 82 62)) dX12_isOn_1 f12_377 sh82 (fun _ _ => rfl) rfl ?_
  refine go_if_le 26 dX12_isOn_4 rfl (fun q => ?_) (fun q => ?_)
  · replace vc := vc.1 q
    refine go_iconst (v := 0) dX12_isOn_26 rfl ?_
    exact go_zret dX12_isOn_27 rfl (by decide) vc rfl (Nat.le_refl _) (Nat.le_refl _)
  · replace vc := vc.2 q
    refine go_aload_n (x := 82) dX12_isOn_7 rfl ?_
    refine go_getR (x := 130) dX12_isOn_8 f12_157 sh82 (fun _ _ => rfl) (rf82_61 hR) ?_
    refine go_aload_n (x := 82) dX12_isOn_11 rfl ?_
    refine go_getI' (v := (h.1 82 62)) dX12_isOn_12 f12_377 sh82 (fun _ _ => rfl) rfl ?_
    refine go_iconst (v := 1) dX12_isOn_15 rfl ?_
    refine go_isub dX12_isOn_16 ?_
    refine go_iald' (v := (h.1 130 (((h.1 82 62) - 1) : Int32).toNatClampNeg)) dX12_isOn_17 sh130 vc.1 rfl ?_
    have vc := vc.2
    refine go_iload_n (x := a1) dX12_isOn_18 rfl ?_
    refine go_icmp_ne 26 dX12_isOn_19 rfl (fun q => ?_) (fun q => ?_)
    · replace vc := vc.1 q
      refine go_iconst (v := 0) dX12_isOn_26 rfl ?_
      exact go_zret dX12_isOn_27 rfl (by decide) vc rfl (Nat.le_refl _) (Nat.le_refl _)
    · replace vc := vc.2 q
      refine go_iconst (v := 1) dX12_isOn_22 rfl ?_
      refine go_goto 27 dX12_isOn_23 rfl ?_
      exact go_zret dX12_isOn_27 rfl (by decide) vc rfl (Nat.le_refl _) (Nat.le_refl _)
set_option maxRecDepth 20000 in
theorem wX12_drops_0 {p : Program} {l : Launch} {e : Env} {s : State} {m : MethodId} {args : Array Value} {below : List Frame} {meth : Method} {c : Code} {G : gG} {d : Nat} {Q : Option Value → gH → Prop} {h : gH} {lk sp : Nat} {cd : Option Nat}  (hR : h.2.2 = gRF lk sp cd) (hlk : lk = 30 ∨ lk = 67) (hsp : sp = 30 ∨ sp = 67)  (vc : (vp_in (((h.1 82 62) - 1)) 1700 ∧ gC l G d MX12_code [.ref 82, .int (h.1 130 (((h.1 82 62) - 1) : Int32).toNatClampNeg)] (sI h 82 62 ((h.1 82 62) - 1)) (rV fun h1 => h1.2.2 = ((sI h 82 62 ((h.1 82 62) - 1))).2.2 ∧ Q none h1))) : gg p l e s m args below meth c G (d + 1) MX12_drops Q 0 [some (.ref 82)] [] h := by
  refine go_aload_n (x := 82) dX12_drops_0 rfl ?_
  refine go_dup dX12_drops_1 rfl ?_
  refine go_getI' (v := (h.1 82 62)) dX12_drops_2 f12_377 sh82 (fun _ _ => rfl) rfl ?_
  refine go_iconst (v := 1) dX12_drops_5 rfl ?_
  refine go_isub dX12_drops_6 ?_
  refine go_putI dX12_drops_7 f12_377 sh82 rfl rfl ?_
  refine go_aload_n (x := 82) dX12_drops_10 rfl ?_
  refine go_aload_n (x := 82) dX12_drops_11 rfl ?_
  refine go_getR (x := 130) dX12_drops_12 f12_157 sh82 (fun _ _ => rfl) (rf82_61 hR) ?_
  refine go_aload_n (x := 82) dX12_drops_15 rfl ?_
  refine go_getI' (v := ((h.1 82 62) - 1)) dX12_drops_16 f12_377 sh82 (fun _ _ => rfl) rfl ?_
  refine go_iald' (v := (h.1 130 (((h.1 82 62) - 1) : Int32).toNatClampNeg)) dX12_drops_19 sh130 vc.1 rfl ?_
  have vc := vc.2
  refine gvV1 MX12_code dX12_drops_20 lX12_431 kX12_code vX12_code sh82 (by decide) rfl (Nat.le_of_ble_eq_true rfl) vc ?_
  intro h1 vc
  obtain ⟨hR1, vc⟩ := vc
  replace hR := hR1.trans hR
  exact go_vret dX12_drops_23 rfl vc rfl (Nat.le_refl _) (Nat.le_refl _)
set_option maxRecDepth 20000 in
theorem wX12_isMark_0 {p : Program} {l : Launch} {e : Env} {s : State} {m : MethodId} {args : Array Value} {below : List Frame} {meth : Method} {c : Code} {G : gG} {d : Nat} {Q : Option Value → gH → Prop} {h : gH} {lk sp : Nat} {cd : Option Nat} {a1 : Int32} (hR : h.2.2 = gRF lk sp cd) (hlk : lk = 30 ∨ lk = 67) (hsp : sp = 30 ∨ sp = 67)  (vc : ((a1 < 20 → Q (some (.int 0)) h) ∧ (¬ a1 < 20 → ((24 < a1 → Q (some (.int 0)) h) ∧ (¬ 24 < a1 → Q (some (.int 1)) h))))) : gg p l e s m args below meth c G d MX12_isMark Q 0 [some (.ref 82), some (.int a1)] [] h := by
  refine go_iload_n (x := a1) dX12_isMark_0 rfl ?_
  refine go_bipush (v := 20) dX12_isMark_1 rfl ?_
  refine go_icmp_lt 16 dX12_isMark_3 rfl (fun q => ?_) (fun q => ?_)
  · replace vc := vc.1 q
    refine go_iconst (v := 0) dX12_isMark_16 rfl ?_
    exact go_zret dX12_isMark_17 rfl (by decide) vc rfl (Nat.le_refl _) (Nat.le_refl _)
  · replace vc := vc.2 q
    refine go_iload_n (x := a1) dX12_isMark_6 rfl ?_
    refine go_bipush (v := 24) dX12_isMark_7 rfl ?_
    refine go_icmp_gt 16 dX12_isMark_9 rfl (fun q => ?_) (fun q => ?_)
    · replace vc := vc.1 q
      refine go_iconst (v := 0) dX12_isMark_16 rfl ?_
      exact go_zret dX12_isMark_17 rfl (by decide) vc rfl (Nat.le_refl _) (Nat.le_refl _)
    · replace vc := vc.2 q
      refine go_iconst (v := 1) dX12_isMark_12 rfl ?_
      refine go_goto 17 dX12_isMark_13 rfl ?_
      exact go_zret dX12_isMark_17 rfl (by decide) vc rfl (Nat.le_refl _) (Nat.le_refl _)
set_option maxRecDepth 20000 in
theorem wX12_waitsLast_0 {p : Program} {l : Launch} {e : Env} {s : State} {m : MethodId} {args : Array Value} {below : List Frame} {meth : Method} {c : Code} {G : gG} {d : Nat} {Q : Option Value → gH → Prop} {h : gH} {lk sp : Nat} {cd : Option Nat}  (hR : h.2.2 = gRF lk sp cd) (hlk : lk = 30 ∨ lk = 67) (hsp : sp = 30 ∨ sp = 67)  (vc : gg p l e s m args below meth c G (d + 1) MX12_waitsLast Q 7 [some (.ref 82), some (.int ((h.1 82 62) - 1))] [] h) : gg p l e s m args below meth c G (d + 1) MX12_waitsLast Q 0 [some (.ref 82), none] [] h := by
  refine go_aload_n (x := 82) dX12_waitsLast_0 rfl ?_
  refine go_getI' (v := (h.1 82 62)) dX12_waitsLast_1 f12_377 sh82 (fun _ _ => rfl) rfl ?_
  refine go_iconst (v := 1) dX12_waitsLast_4 rfl ?_
  refine go_isub dX12_waitsLast_5 ?_
  refine go_istore_n dX12_waitsLast_6 (Nat.le_of_ble_eq_true rfl) ?_
  show gg p l e s m args below meth c G (d + 1) MX12_waitsLast Q 7 [some (.ref 82), some (.int ((h.1 82 62) - 1))] [] h
  exact vc
set_option maxRecDepth 20000 in
theorem wX12_waitsLast_7 {p : Program} {l : Launch} {e : Env} {s : State} {m : MethodId} {args : Array Value} {below : List Frame} {meth : Method} {c : Code} {G : gG} {d : Nat} {Q : Option Value → gH → Prop} {h : gH} {lk sp : Nat} {cd : Option Nat} {x1 : Int32} (hR : h.2.2 = gRF lk sp cd) (hlk : lk = 30 ∨ lk = 67) (hsp : sp = 30 ∨ sp = 67)  (vc : ((x1 < (h.1 82 64) → ((x1 < (h.1 82 64) → Q (some (.int (-1))) h) ∧ (¬ x1 < (h.1 82 64) → (vp_in x1 1700 ∧ Q (some (.int (h.1 130 x1.toNatClampNeg))) h)))) ∧ (¬ x1 < (h.1 82 64) → (vp_in x1 1700 ∧ gC l G d MX12_isMark [.ref 82, .int (h.1 130 x1.toNatClampNeg)] h (rI fun v1 h1 => h1.2.2 = (h).2.2 ∧ ((¬ v1 = 0 → ((x1 < (h1.1 82 64) → Q (some (.int (-1))) h1) ∧ (¬ x1 < (h1.1 82 64) → (vp_in x1 1700 ∧ Q (some (.int (h1.1 130 x1.toNatClampNeg))) h1)))) ∧ (v1 = 0 → gg p l e s m args below meth c G (d + 1) MX12_waitsLast Q 7 [some (.ref 82), some (.int (x1 + (-1)))] [] h1))))))) : gg p l e s m args below meth c G (d + 1) MX12_waitsLast Q 7 [some (.ref 82), some (.int x1)] [] h := by
  refine go_iload_n (x := x1) dX12_waitsLast_7 rfl ?_
  refine go_aload_n (x := 82) dX12_waitsLast_8 rfl ?_
  refine go_getI' (v := (h.1 82 64)) dX12_waitsLast_9 f12_383 sh82 (fun _ _ => rfl) rfl ?_
  refine go_icmp_lt 34 dX12_waitsLast_12 rfl (fun q => ?_) (fun q => ?_)
  · replace vc := vc.1 q
    refine go_iload_n (x := x1) dX12_waitsLast_34 rfl ?_
    refine go_aload_n (x := 82) dX12_waitsLast_35 rfl ?_
    refine go_getI' (v := (h.1 82 64)) dX12_waitsLast_36 f12_383 sh82 (fun _ _ => rfl) rfl ?_
    refine go_icmp_lt 51 dX12_waitsLast_39 rfl (fun q => ?_) (fun q => ?_)
    · replace vc := vc.1 q
      refine go_iconst (v := (-1)) dX12_waitsLast_51 rfl ?_
      exact go_iret dX12_waitsLast_52 rfl vc rfl (Nat.le_refl _) (Nat.le_refl _)
    · replace vc := vc.2 q
      refine go_aload_n (x := 82) dX12_waitsLast_42 rfl ?_
      refine go_getR (x := 130) dX12_waitsLast_43 f12_157 sh82 (fun _ _ => rfl) (rf82_61 hR) ?_
      refine go_iload_n (x := x1) dX12_waitsLast_46 rfl ?_
      refine go_iald' (v := (h.1 130 x1.toNatClampNeg)) dX12_waitsLast_47 sh130 vc.1 rfl ?_
      have vc := vc.2
      refine go_goto 52 dX12_waitsLast_48 rfl ?_
      exact go_iret dX12_waitsLast_52 rfl vc rfl (Nat.le_refl _) (Nat.le_refl _)
  · replace vc := vc.2 q
    refine go_aload_n (x := 82) dX12_waitsLast_15 rfl ?_
    refine go_aload_n (x := 82) dX12_waitsLast_16 rfl ?_
    refine go_getR (x := 130) dX12_waitsLast_17 f12_157 sh82 (fun _ _ => rfl) (rf82_61 hR) ?_
    refine go_iload_n (x := x1) dX12_waitsLast_20 rfl ?_
    refine go_iald' (v := (h.1 130 x1.toNatClampNeg)) dX12_waitsLast_21 sh130 vc.1 rfl ?_
    have vc := vc.2
    refine gvI1 MX12_isMark dX12_waitsLast_22 lX12_434 kX12_isMark vX12_isMark sh82 (by decide) rfl (Nat.le_of_ble_eq_true rfl) vc ?_
    intro v1 h1 vc
    obtain ⟨hR1, vc⟩ := vc
    replace hR := hR1.trans hR
    refine go_if_ne 34 dX12_waitsLast_25 rfl (fun q => ?_) (fun q => ?_)
    · replace vc := vc.1 q
      refine go_iload_n (x := x1) dX12_waitsLast_34 rfl ?_
      refine go_aload_n (x := 82) dX12_waitsLast_35 rfl ?_
      refine go_getI' (v := (h1.1 82 64)) dX12_waitsLast_36 f12_383 sh82 (fun _ _ => rfl) rfl ?_
      refine go_icmp_lt 51 dX12_waitsLast_39 rfl (fun q => ?_) (fun q => ?_)
      · replace vc := vc.1 q
        refine go_iconst (v := (-1)) dX12_waitsLast_51 rfl ?_
        exact go_iret dX12_waitsLast_52 rfl vc rfl (Nat.le_refl _) (Nat.le_refl _)
      · replace vc := vc.2 q
        refine go_aload_n (x := 82) dX12_waitsLast_42 rfl ?_
        refine go_getR (x := 130) dX12_waitsLast_43 f12_157 sh82 (fun _ _ => rfl) (rf82_61 hR) ?_
        refine go_iload_n (x := x1) dX12_waitsLast_46 rfl ?_
        refine go_iald' (v := (h1.1 130 x1.toNatClampNeg)) dX12_waitsLast_47 sh130 vc.1 rfl ?_
        have vc := vc.2
        refine go_goto 52 dX12_waitsLast_48 rfl ?_
        exact go_iret dX12_waitsLast_52 rfl vc rfl (Nat.le_refl _) (Nat.le_refl _)
    · replace vc := vc.2 q
      refine go_iinc (x := x1) dX12_waitsLast_28 rfl ?_
      show gg p l e s m args below meth c G (d + 1) MX12_waitsLast Q 31 [some (.ref 82), some (.int (x1 + (-1)))] [] h1
      refine go_goto 7 dX12_waitsLast_31 rfl ?_
      exact vc
set_option maxRecDepth 20000 in
theorem wX12_dropsToMark_0 {p : Program} {l : Launch} {e : Env} {s : State} {m : MethodId} {args : Array Value} {below : List Frame} {meth : Method} {c : Code} {G : gG} {d : Nat} {Q : Option Value → gH → Prop} {h : gH} {lk sp : Nat} {cd : Option Nat}  (hR : h.2.2 = gRF lk sp cd) (hlk : lk = 30 ∨ lk = 67) (hsp : sp = 30 ∨ sp = 67)  (vc : (((h.1 82 62) ≤ (h.1 82 64) → Q none h) ∧ (¬ (h.1 82 62) ≤ (h.1 82 64) → (vp_in (((h.1 82 62) - 1)) 1700 ∧ gC l G d MX12_isMark [.ref 82, .int (h.1 130 (((h.1 82 62) - 1) : Int32).toNatClampNeg)] h (rI fun v1 h1 => h1.2.2 = (h).2.2 ∧ ((¬ v1 = 0 → Q none h1) ∧ (v1 = 0 → gC l G d MX12_drops [.ref 82] h1 (rV fun h2 => h2.2.2 = (h1).2.2 ∧ gg p l e s m args below meth c G (d + 1) MX12_dropsToMark Q 0 [some (.ref 82)] [] h2)))))))) : gg p l e s m args below meth c G (d + 1) MX12_dropsToMark Q 0 [some (.ref 82)] [] h := by
  refine go_aload_n (x := 82) dX12_dropsToMark_0 rfl ?_
  refine go_getI' (v := (h.1 82 62)) dX12_dropsToMark_1 f12_377 sh82 (fun _ _ => rfl) rfl ?_
  refine go_aload_n (x := 82) dX12_dropsToMark_4 rfl ?_
  refine go_getI' (v := (h.1 82 64)) dX12_dropsToMark_5 f12_383 sh82 (fun _ _ => rfl) rfl ?_
  refine go_icmp_le 36 dX12_dropsToMark_8 rfl (fun q => ?_) (fun q => ?_)
  · replace vc := vc.1 q
    exact go_vret dX12_dropsToMark_36 rfl vc rfl (Nat.le_refl _) (Nat.le_refl _)
  · replace vc := vc.2 q
    refine go_aload_n (x := 82) dX12_dropsToMark_11 rfl ?_
    refine go_aload_n (x := 82) dX12_dropsToMark_12 rfl ?_
    refine go_getR (x := 130) dX12_dropsToMark_13 f12_157 sh82 (fun _ _ => rfl) (rf82_61 hR) ?_
    refine go_aload_n (x := 82) dX12_dropsToMark_16 rfl ?_
    refine go_getI' (v := (h.1 82 62)) dX12_dropsToMark_17 f12_377 sh82 (fun _ _ => rfl) rfl ?_
    refine go_iconst (v := 1) dX12_dropsToMark_20 rfl ?_
    refine go_isub dX12_dropsToMark_21 ?_
    refine go_iald' (v := (h.1 130 (((h.1 82 62) - 1) : Int32).toNatClampNeg)) dX12_dropsToMark_22 sh130 vc.1 rfl ?_
    have vc := vc.2
    refine gvI1 MX12_isMark dX12_dropsToMark_23 lX12_434 kX12_isMark vX12_isMark sh82 (by decide) rfl (Nat.le_of_ble_eq_true rfl) vc ?_
    intro v1 h1 vc
    obtain ⟨hR1, vc⟩ := vc
    replace hR := hR1.trans hR
    refine go_if_ne 36 dX12_dropsToMark_26 rfl (fun q => ?_) (fun q => ?_)
    · replace vc := vc.1 q
      exact go_vret dX12_dropsToMark_36 rfl vc rfl (Nat.le_refl _) (Nat.le_refl _)
    · replace vc := vc.2 q
      refine go_aload_n (x := 82) dX12_dropsToMark_29 rfl ?_
      refine gvV0 MX12_drops dX12_dropsToMark_30 lX12_437 kX12_drops vX12_drops sh82 (by decide) rfl (Nat.le_of_ble_eq_true rfl) vc ?_
      intro h2 vc
      obtain ⟨hR2, vc⟩ := vc
      replace hR := hR2.trans hR
      refine go_goto 0 dX12_dropsToMark_33 rfl ?_
      exact vc
set_option maxRecDepth 20000 in
theorem wX12_onePart_0 {p : Program} {l : Launch} {e : Env} {s : State} {m : MethodId} {args : Array Value} {below : List Frame} {meth : Method} {c : Code} {G : gG} {d : Nat} {Q : Option Value → gH → Prop} {h : gH} {lk sp : Nat} {cd : Option Nat}  (hR : h.2.2 = gRF lk sp cd) (hlk : lk = 30 ∨ lk = 67) (hsp : sp = 30 ∨ sp = 67)  (vc : gg p l e s m args below meth c G (d + 1) MX12_onePart Q 2 [some (.ref 82), some (.int 1), none, none, none] [] h) : gg p l e s m args below meth c G (d + 1) MX12_onePart Q 0 [some (.ref 82), none, none, none, none] [] h := by
  refine go_iconst (v := 1) dX12_onePart_0 rfl ?_
  refine go_istore_n dX12_onePart_1 (Nat.le_of_ble_eq_true rfl) ?_
  show gg p l e s m args below meth c G (d + 1) MX12_onePart Q 2 [some (.ref 82), some (.int 1), none, none, none] [] h
  exact vc
set_option maxRecDepth 20000 in
theorem wX12_onePart_2 {p : Program} {l : Launch} {e : Env} {s : State} {m : MethodId} {args : Array Value} {below : List Frame} {meth : Method} {c : Code} {G : gG} {d : Nat} {Q : Option Value → gH → Prop} {h : gH} {lk sp : Nat} {cd : Option Nat} {x1 : Int32} (hR : h.2.2 = gRF lk sp cd) (hlk : lk = 30 ∨ lk = 67) (hsp : sp = 30 ∨ sp = 67)  (vc : ((x1 = 0 → gg p l e s m args below meth c G (d + 1) MX12_onePart Q 146 [some (.ref 82), some (.int x1), none, none, none] [] h) ∧ (¬ x1 = 0 → ((¬ (h.1 82 5) = 0 → gg p l e s m args below meth c G (d + 1) MX12_onePart Q 146 [some (.ref 82), some (.int x1), none, none, none] [] h) ∧ ((h.1 82 5) = 0 → gC l G d MX12_look [.ref 82] h (rI fun v1 h1 => h1.2.2 = (h).2.2 ∧ ((¬ v1 = 40 → gC l G d MX12_isHere [.ref 82, .ref 117] h1 (rI fun v2 h2 => h2.2.2 = (h1).2.2 ∧ ((¬ v2 = 0 → gg p l e s m args below meth c G (d + 1) MX12_onePart Q 69 [some (.ref 82), some (.int x1), some (.int v1), none, none] [] h2) ∧ (v2 = 0 → gC l G d MX12_isHere [.ref 82, .ref 118] h2 (rI fun v3 h3 => h3.2.2 = (h2).2.2 ∧ ((v3 = 0 → gg p l e s m args below meth c G (d + 1) MX12_onePart Q 143 [some (.ref 82), some (.int 0), some (.int v1), none, none] [] h3) ∧ (¬ v3 = 0 → gg p l e s m args below meth c G (d + 1) MX12_onePart Q 69 [some (.ref 82), some (.int x1), some (.int v1), none, none] [] h3))))))) ∧ (v1 = 40 → gC l G d MX12_opens [.ref 82, .int 20, .int (h1.1 82 2)] h1 (rV fun h4 => h4.2.2 = (h1).2.2 ∧ gg p l e s m args below meth c G (d + 1) MX12_onePart Q 143 [some (.ref 82), some (.int x1), some (.int v1), none, none] [] (sI h4 82 2 ((h4.1 82 2) + 1))))))))))) : gg p l e s m args below meth c G (d + 1) MX12_onePart Q 2 [some (.ref 82), some (.int x1), none, none, none] [] h := by
  refine go_iload_n (x := x1) dX12_onePart_2 rfl ?_
  refine go_if_eq 146 dX12_onePart_3 rfl (fun q => ?_) (fun q => ?_)
  · replace vc := vc.1 q
    exact vc
  · replace vc := vc.2 q
    refine go_aload_n (x := 82) dX12_onePart_6 rfl ?_
    refine go_getI' (v := (h.1 82 5)) dX12_onePart_7 f12_278 sh82 (fun _ _ => rfl) rfl ?_
    refine go_if_ne 146 dX12_onePart_10 rfl (fun q => ?_) (fun q => ?_)
    · replace vc := vc.1 q
      exact vc
    · replace vc := vc.2 q
      refine go_aload_n (x := 82) dX12_onePart_13 rfl ?_
      refine gvI0 MX12_look dX12_onePart_14 lX12_290 kX12_look vX12_look sh82 (by decide) rfl (Nat.le_of_ble_eq_true rfl) vc ?_
      intro v1 h1 vc
      obtain ⟨hR1, vc⟩ := vc
      replace hR := hR1.trans hR
      refine go_istore_n dX12_onePart_17 (Nat.le_of_ble_eq_true rfl) ?_
      show gg p l e s m args below meth c G (d + 1) MX12_onePart Q 18 [some (.ref 82), some (.int x1), some (.int v1), none, none] [] h1
      refine go_iload_n (x := v1) dX12_onePart_18 rfl ?_
      refine go_bipush (v := 40) dX12_onePart_19 rfl ?_
      refine go_icmp_ne 47 dX12_onePart_21 rfl (fun q => ?_) (fun q => ?_)
      · replace vc := vc.1 q
        refine go_aload_n (x := 82) dX12_onePart_47 rfl ?_
        refine go_aload_n (x := 82) dX12_onePart_48 rfl ?_
        refine go_getR (x := 117) dX12_onePart_49 f12_117 sh82 (fun _ _ => rfl) (rf82_43 hR) ?_
        refine gvI1 MX12_isHere dX12_onePart_52 lX12_301 kX12_isHere vX12_isHere sh82 (by decide) rfl (Nat.le_of_ble_eq_true rfl) vc ?_
        intro v2 h2 vc
        obtain ⟨hR2, vc⟩ := vc
        replace hR := hR2.trans hR
        refine go_if_ne 69 dX12_onePart_55 rfl (fun q => ?_) (fun q => ?_)
        · replace vc := vc.1 q
          exact vc
        · replace vc := vc.2 q
          refine go_aload_n (x := 82) dX12_onePart_58 rfl ?_
          refine go_aload_n (x := 82) dX12_onePart_59 rfl ?_
          refine go_getR (x := 118) dX12_onePart_60 f12_120 sh82 (fun _ _ => rfl) (rf82_44 hR) ?_
          refine gvI1 MX12_isHere dX12_onePart_63 lX12_301 kX12_isHere vX12_isHere sh82 (by decide) rfl (Nat.le_of_ble_eq_true rfl) vc ?_
          intro v3 h3 vc
          obtain ⟨hR3, vc⟩ := vc
          replace hR := hR3.trans hR
          refine go_if_eq 141 dX12_onePart_66 rfl (fun q => ?_) (fun q => ?_)
          · replace vc := vc.1 q
            refine go_iconst (v := 0) dX12_onePart_141 rfl ?_
            refine go_istore_n dX12_onePart_142 (Nat.le_of_ble_eq_true rfl) ?_
            show gg p l e s m args below meth c G (d + 1) MX12_onePart Q 143 [some (.ref 82), some (.int 0), some (.int v1), none, none] [] h3
            exact vc
          · replace vc := vc.2 q
            exact vc
      · replace vc := vc.2 q
        refine go_aload_n (x := 82) dX12_onePart_24 rfl ?_
        refine go_bipush (v := 20) dX12_onePart_25 rfl ?_
        refine go_aload_n (x := 82) dX12_onePart_27 rfl ?_
        refine go_getI' (v := (h1.1 82 2)) dX12_onePart_28 f12_284 sh82 (fun _ _ => rfl) rfl ?_
        refine gvV2 MX12_opens dX12_onePart_31 lX12_440 kX12_opens vX12_opens sh82 (by decide) rfl (Nat.le_of_ble_eq_true rfl) vc ?_
        intro h4 vc
        obtain ⟨hR4, vc⟩ := vc
        replace hR := hR4.trans hR
        refine go_aload_n (x := 82) dX12_onePart_34 rfl ?_
        refine go_dup dX12_onePart_35 rfl ?_
        refine go_getI' (v := (h4.1 82 2)) dX12_onePart_36 f12_284 sh82 (fun _ _ => rfl) rfl ?_
        refine go_iconst (v := 1) dX12_onePart_39 rfl ?_
        refine go_iadd dX12_onePart_40 ?_
        refine go_putI dX12_onePart_41 f12_284 sh82 rfl rfl ?_
        refine go_goto 143 dX12_onePart_44 rfl ?_
        exact vc
set_option maxRecDepth 20000 in
theorem wX12_onePart_69 {p : Program} {l : Launch} {e : Env} {s : State} {m : MethodId} {args : Array Value} {below : List Frame} {meth : Method} {c : Code} {G : gG} {d : Nat} {Q : Option Value → gH → Prop} {h : gH} {lk sp : Nat} {cd : Option Nat} {x1 : Int32} {x2 : Int32} (hR : h.2.2 = gRF lk sp cd) (hlk : lk = 30 ∨ lk = 67) (hsp : sp = 30 ∨ sp = 67)  (vc : gC l G d MX12_takes [.ref 82, .ref 117] h (rI fun v1 h1 => h1.2.2 = (h).2.2 ∧ ((¬ v1 = 0 → gg p l e s m args below meth c G (d + 1) MX12_onePart Q 90 [some (.ref 82), some (.int x1), some (.int x2), some (.int v1), none] [] h1) ∧ (v1 = 0 → gC l G d MX12_asks [.ref 82, .ref 118] h1 (rV fun h2 => h2.2.2 = (h1).2.2 ∧ gg p l e s m args below meth c G (d + 1) MX12_onePart Q 90 [some (.ref 82), some (.int x1), some (.int x2), some (.int v1), none] [] h2))))) : gg p l e s m args below meth c G (d + 1) MX12_onePart Q 69 [some (.ref 82), some (.int x1), some (.int x2), none, none] [] h := by
  refine go_aload_n (x := 82) dX12_onePart_69 rfl ?_
  refine go_aload_n (x := 82) dX12_onePart_70 rfl ?_
  refine go_getR (x := 117) dX12_onePart_71 f12_117 sh82 (fun _ _ => rfl) (rf82_43 hR) ?_
  refine gvI1 MX12_takes dX12_onePart_74 lX12_305 kX12_takes vX12_takes sh82 (by decide) rfl (Nat.le_of_ble_eq_true rfl) vc ?_
  intro v1 h1 vc
  obtain ⟨hR1, vc⟩ := vc
  replace hR := hR1.trans hR
  refine go_istore_n dX12_onePart_77 (Nat.le_of_ble_eq_true rfl) ?_
  show gg p l e s m args below meth c G (d + 1) MX12_onePart Q 78 [some (.ref 82), some (.int x1), some (.int x2), some (.int v1), none] [] h1
  refine go_iload_n (x := v1) dX12_onePart_78 rfl ?_
  refine go_if_ne 90 dX12_onePart_79 rfl (fun q => ?_) (fun q => ?_)
  · replace vc := vc.1 q
    exact vc
  · replace vc := vc.2 q
    refine go_aload_n (x := 82) dX12_onePart_82 rfl ?_
    refine go_aload_n (x := 82) dX12_onePart_83 rfl ?_
    refine go_getR (x := 118) dX12_onePart_84 f12_120 sh82 (fun _ _ => rfl) (rf82_44 hR) ?_
    refine gvV1 MX12_asks dX12_onePart_87 lX12_344 kX12_asks vX12_asks sh82 (by decide) rfl (Nat.le_of_ble_eq_true rfl) vc ?_
    intro h2 vc
    obtain ⟨hR2, vc⟩ := vc
    replace hR := hR2.trans hR
    exact vc
set_option maxRecDepth 20000 in
theorem wX12_onePart_90 {p : Program} {l : Launch} {e : Env} {s : State} {m : MethodId} {args : Array Value} {below : List Frame} {meth : Method} {c : Code} {G : gG} {d : Nat} {Q : Option Value → gH → Prop} {h : gH} {lk sp : Nat} {cd : Option Nat} {x1 : Int32} {x2 : Int32} {x3 : Int32} (hR : h.2.2 = gRF lk sp cd) (hlk : lk = 30 ∨ lk = 67) (hsp : sp = 30 ∨ sp = 67)  (vc : gC l G d MX12_look [.ref 82] h (rI fun v1 h1 => h1.2.2 = (h).2.2 ∧ ((¬ v1 = 40 → gg p l e s m args below meth c G (d + 1) MX12_onePart Q 107 [some (.ref 82), some (.int x1), some (.int x2), some (.int x3), none] [.int (-1)] h1) ∧ (v1 = 40 → gg p l e s m args below meth c G (d + 1) MX12_onePart Q 107 [some (.ref 82), some (.int x1), some (.int x2), some (.int x3), none] [.int (h1.1 82 2)] h1)))) : gg p l e s m args below meth c G (d + 1) MX12_onePart Q 90 [some (.ref 82), some (.int x1), some (.int x2), some (.int x3), none] [] h := by
  refine go_aload_n (x := 82) dX12_onePart_90 rfl ?_
  refine gvI0 MX12_look dX12_onePart_91 lX12_290 kX12_look vX12_look sh82 (by decide) rfl (Nat.le_of_ble_eq_true rfl) vc ?_
  intro v1 h1 vc
  obtain ⟨hR1, vc⟩ := vc
  replace hR := hR1.trans hR
  refine go_bipush (v := 40) dX12_onePart_94 rfl ?_
  refine go_icmp_ne 106 dX12_onePart_96 rfl (fun q => ?_) (fun q => ?_)
  · replace vc := vc.1 q
    refine go_iconst (v := (-1)) dX12_onePart_106 rfl ?_
    exact vc
  · replace vc := vc.2 q
    refine go_aload_n (x := 82) dX12_onePart_99 rfl ?_
    refine go_getI' (v := (h1.1 82 2)) dX12_onePart_100 f12_284 sh82 (fun _ _ => rfl) rfl ?_
    refine go_goto 107 dX12_onePart_103 rfl ?_
    exact vc
set_option maxRecDepth 20000 in
theorem wX12_onePart_107 {p : Program} {l : Launch} {e : Env} {s : State} {m : MethodId} {args : Array Value} {below : List Frame} {meth : Method} {c : Code} {G : gG} {d : Nat} {Q : Option Value → gH → Prop} {h : gH} {lk sp : Nat} {cd : Option Nat} {x1 : Int32} {x2 : Int32} {x3 : Int32} {y0 : Int32} (hR : h.2.2 = gRF lk sp cd) (hlk : lk = 30 ∨ lk = 67) (hsp : sp = 30 ∨ sp = 67)  (vc : ((y0 = (-1) → gg p l e s m args below meth c G (d + 1) MX12_onePart Q 132 [some (.ref 82), some (.int x1), some (.int x2), some (.int x3), some (.int y0)] [] h) ∧ (¬ y0 = (-1) → ((x3 = 0 → gC l G d MX12_opens [.ref 82, .int 22, .int y0] h (rV fun h1 => h1.2.2 = (h).2.2 ∧ gg p l e s m args below meth c G (d + 1) MX12_onePart Q 132 [some (.ref 82), some (.int x1), some (.int x2), some (.int x3), some (.int y0)] [] h1)) ∧ (¬ x3 = 0 → gC l G d MX12_opens [.ref 82, .int 21, .int y0] h (rV fun h2 => h2.2.2 = (h).2.2 ∧ gg p l e s m args below meth c G (d + 1) MX12_onePart Q 132 [some (.ref 82), some (.int x1), some (.int x2), some (.int x3), some (.int y0)] [] h2)))))) : gg p l e s m args below meth c G (d + 1) MX12_onePart Q 107 [some (.ref 82), some (.int x1), some (.int x2), some (.int x3), none] [.int y0] h := by
  refine go_istore dX12_onePart_107 (Nat.le_of_ble_eq_true rfl) ?_
  show gg p l e s m args below meth c G (d + 1) MX12_onePart Q 109 [some (.ref 82), some (.int x1), some (.int x2), some (.int x3), some (.int y0)] [] h
  refine go_iload (x := y0) dX12_onePart_109 rfl ?_
  refine go_iconst (v := (-1)) dX12_onePart_111 rfl ?_
  refine go_icmp_eq 132 dX12_onePart_112 rfl (fun q => ?_) (fun q => ?_)
  · replace vc := vc.1 q
    exact vc
  · replace vc := vc.2 q
    refine go_aload_n (x := 82) dX12_onePart_115 rfl ?_
    refine go_iload_n (x := x3) dX12_onePart_116 rfl ?_
    refine go_if_eq 125 dX12_onePart_117 rfl (fun q => ?_) (fun q => ?_)
    · replace vc := vc.1 q
      refine go_bipush (v := 22) dX12_onePart_125 rfl ?_
      refine go_iload (x := y0) dX12_onePart_127 rfl ?_
      refine gvV2 MX12_opens dX12_onePart_129 lX12_440 kX12_opens vX12_opens sh82 (by decide) rfl (Nat.le_of_ble_eq_true rfl) vc ?_
      intro h1 vc
      obtain ⟨hR1, vc⟩ := vc
      replace hR := hR1.trans hR
      exact vc
    · replace vc := vc.2 q
      refine go_bipush (v := 21) dX12_onePart_120 rfl ?_
      refine go_goto 127 dX12_onePart_122 rfl ?_
      refine go_iload (x := y0) dX12_onePart_127 rfl ?_
      refine gvV2 MX12_opens dX12_onePart_129 lX12_440 kX12_opens vX12_opens sh82 (by decide) rfl (Nat.le_of_ble_eq_true rfl) vc ?_
      intro h2 vc
      obtain ⟨hR2, vc⟩ := vc
      replace hR := hR2.trans hR
      exact vc
set_option maxRecDepth 20000 in
theorem wX12_onePart_132 {p : Program} {l : Launch} {e : Env} {s : State} {m : MethodId} {args : Array Value} {below : List Frame} {meth : Method} {c : Code} {G : gG} {d : Nat} {Q : Option Value → gH → Prop} {h : gH} {lk sp : Nat} {cd : Option Nat} {x1 : Int32} {x2 : Int32} {x3 : Int32} {x4 : Int32} (hR : h.2.2 = gRF lk sp cd) (hlk : lk = 30 ∨ lk = 67) (hsp : sp = 30 ∨ sp = 67)  (vc : gC l G d MX12_asksSign [.ref 82, .int 40] h (rV fun h1 => h1.2.2 = (h).2.2 ∧ gg p l e s m args below meth c G (d + 1) MX12_onePart Q 143 [some (.ref 82), some (.int x1), some (.int x2), none, none] [] h1)) : gg p l e s m args below meth c G (d + 1) MX12_onePart Q 132 [some (.ref 82), some (.int x1), some (.int x2), some (.int x3), some (.int x4)] [] h := by
  refine go_aload_n (x := 82) dX12_onePart_132 rfl ?_
  refine go_bipush (v := 40) dX12_onePart_133 rfl ?_
  refine gvV1 MX12_asksSign dX12_onePart_135 lX12_352 kX12_asksSign vX12_asksSign sh82 (by decide) rfl (Nat.le_of_ble_eq_true rfl) vc ?_
  intro h1 vc
  obtain ⟨hR1, vc⟩ := vc
  replace hR := hR1.trans hR
  refine go_goto 143 dX12_onePart_138 rfl ?_
  refine go_weak (ls' := [some (.ref 82), some (.int x1), some (.int x2), none, none]) ?_ vc
  exact (⟨rfl, ⟨rfl, ⟨rfl, trivial⟩⟩⟩)
set_option maxRecDepth 20000 in
theorem wX12_onePart_143 {p : Program} {l : Launch} {e : Env} {s : State} {m : MethodId} {args : Array Value} {below : List Frame} {meth : Method} {c : Code} {G : gG} {d : Nat} {Q : Option Value → gH → Prop} {h : gH} {lk sp : Nat} {cd : Option Nat} {x1 : Int32} {x2 : Int32} (hR : h.2.2 = gRF lk sp cd) (hlk : lk = 30 ∨ lk = 67) (hsp : sp = 30 ∨ sp = 67)  (vc : gg p l e s m args below meth c G (d + 1) MX12_onePart Q 2 [some (.ref 82), some (.int x1), none, none, none] [] h) : gg p l e s m args below meth c G (d + 1) MX12_onePart Q 143 [some (.ref 82), some (.int x1), some (.int x2), none, none] [] h := by
  refine go_goto 2 dX12_onePart_143 rfl ?_
  refine go_weak (ls' := [some (.ref 82), some (.int x1), none, none, none]) ?_ vc
  exact (⟨rfl, ⟨rfl, trivial⟩⟩)
set_option maxRecDepth 20000 in
theorem wX12_onePart_146 {p : Program} {l : Launch} {e : Env} {s : State} {m : MethodId} {args : Array Value} {below : List Frame} {meth : Method} {c : Code} {G : gG} {d : Nat} {Q : Option Value → gH → Prop} {h : gH} {lk sp : Nat} {cd : Option Nat} {x1 : Int32} (hR : h.2.2 = gRF lk sp cd) (hlk : lk = 30 ∨ lk = 67) (hsp : sp = 30 ∨ sp = 67)  (vc : (((h.1 82 5) = 0 → gC l G d MX12_takes [.ref 82, .ref 101] h (rI fun v1 h1 => h1.2.2 = (h).2.2 ∧ ((v1 = 0 → gC l G d MX12_takes [.ref 82, .ref 102] h1 (rI fun v2 h2 => h2.2.2 = (h1).2.2 ∧ ((v2 = 0 → gC l G d MX12_takes [.ref 82, .ref 103] h2 (rI fun v3 h3 => h3.2.2 = (h2).2.2 ∧ ((v3 = 0 → gC l G d MX12_takes [.ref 82, .ref 104] h3 (rI fun v4 h4 => h4.2.2 = (h3).2.2 ∧ ((v4 = 0 → gC l G d MX12_takes [.ref 82, .ref 105] h4 (rI fun v5 h5 => h5.2.2 = (h4).2.2 ∧ ((v5 = 0 → gC l G d MX12_takes [.ref 82, .ref 91] h5 (rI fun v6 h6 => h6.2.2 = (h5).2.2 ∧ ((v6 = 0 → gC l G d MX12_takes [.ref 82, .ref 106] h6 (rI fun v7 h7 => h7.2.2 = (h6).2.2 ∧ ((v7 = 0 → gC l G d MX12_takes [.ref 82, .ref 107] h7 (rI fun v8 h8 => h8.2.2 = (h7).2.2 ∧ ((v8 = 0 → ((¬ (h8.1 82 57) = 0 → gg p l e s m args below meth c G (d + 1) MX12_onePart Q 305 [some (.ref 82), some (.int x1), none, none, none] [] h8) ∧ ((h8.1 82 57) = 0 → gC l G d MX12_takes [.ref 82, .ref 88] h8 (rI fun v9 h9 => h9.2.2 = (h8).2.2 ∧ ((v9 = 0 → gg p l e s m args below meth c G (d + 1) MX12_onePart Q 305 [some (.ref 82), some (.int x1), none, none, none] [] h9) ∧ (¬ v9 = 0 → gg p l e s m args below meth c G (d + 1) MX12_onePart Q 329 [some (.ref 82), some (.int x1), none, none, none] [.int 15] h9)))))) ∧ (¬ v8 = 0 → gg p l e s m args below meth c G (d + 1) MX12_onePart Q 329 [some (.ref 82), some (.int x1), none, none, none] [.int 14] h8)))) ∧ (¬ v7 = 0 → gg p l e s m args below meth c G (d + 1) MX12_onePart Q 329 [some (.ref 82), some (.int x1), none, none, none] [.int 13] h7)))) ∧ (¬ v6 = 0 → gg p l e s m args below meth c G (d + 1) MX12_onePart Q 329 [some (.ref 82), some (.int x1), none, none, none] [.int 12] h6)))) ∧ (¬ v5 = 0 → gg p l e s m args below meth c G (d + 1) MX12_onePart Q 329 [some (.ref 82), some (.int x1), none, none, none] [.int 11] h5)))) ∧ (¬ v4 = 0 → gg p l e s m args below meth c G (d + 1) MX12_onePart Q 329 [some (.ref 82), some (.int x1), none, none, none] [.int 10] h4)))) ∧ (¬ v3 = 0 → gg p l e s m args below meth c G (d + 1) MX12_onePart Q 329 [some (.ref 82), some (.int x1), none, none, none] [.int 9] h3)))) ∧ (¬ v2 = 0 → gg p l e s m args below meth c G (d + 1) MX12_onePart Q 329 [some (.ref 82), some (.int x1), none, none, none] [.int 8] h2)))) ∧ (¬ v1 = 0 → gg p l e s m args below meth c G (d + 1) MX12_onePart Q 329 [some (.ref 82), some (.int x1), none, none, none] [.int 7] h1)))) ∧ (¬ (h.1 82 5) = 0 → Q none h))) : gg p l e s m args below meth c G (d + 1) MX12_onePart Q 146 [some (.ref 82), some (.int x1), none, none, none] [] h := by
  refine go_aload_n (x := 82) dX12_onePart_146 rfl ?_
  refine go_getI' (v := (h.1 82 5)) dX12_onePart_147 f12_278 sh82 (fun _ _ => rfl) rfl ?_
  refine go_if_eq 154 dX12_onePart_150 rfl (fun q => ?_) (fun q => ?_)
  · replace vc := vc.1 q
    refine go_aload_n (x := 82) dX12_onePart_154 rfl ?_
    refine go_aload_n (x := 82) dX12_onePart_155 rfl ?_
    refine go_getR (x := 101) dX12_onePart_156 f12_69 sh82 (fun _ _ => rfl) (rf82_27 hR) ?_
    refine gvI1 MX12_takes dX12_onePart_159 lX12_305 kX12_takes vX12_takes sh82 (by decide) rfl (Nat.le_of_ble_eq_true rfl) vc ?_
    intro v1 h1 vc
    obtain ⟨hR1, vc⟩ := vc
    replace hR := hR1.trans hR
    refine go_if_eq 170 dX12_onePart_162 rfl (fun q => ?_) (fun q => ?_)
    · replace vc := vc.1 q
      refine go_aload_n (x := 82) dX12_onePart_170 rfl ?_
      refine go_aload_n (x := 82) dX12_onePart_171 rfl ?_
      refine go_getR (x := 102) dX12_onePart_172 f12_72 sh82 (fun _ _ => rfl) (rf82_28 hR) ?_
      refine gvI1 MX12_takes dX12_onePart_175 lX12_305 kX12_takes vX12_takes sh82 (by decide) rfl (Nat.le_of_ble_eq_true rfl) vc ?_
      intro v2 h2 vc
      obtain ⟨hR2, vc⟩ := vc
      replace hR := hR2.trans hR
      refine go_if_eq 186 dX12_onePart_178 rfl (fun q => ?_) (fun q => ?_)
      · replace vc := vc.1 q
        refine go_aload_n (x := 82) dX12_onePart_186 rfl ?_
        refine go_aload_n (x := 82) dX12_onePart_187 rfl ?_
        refine go_getR (x := 103) dX12_onePart_188 f12_75 sh82 (fun _ _ => rfl) (rf82_29 hR) ?_
        refine gvI1 MX12_takes dX12_onePart_191 lX12_305 kX12_takes vX12_takes sh82 (by decide) rfl (Nat.le_of_ble_eq_true rfl) vc ?_
        intro v3 h3 vc
        obtain ⟨hR3, vc⟩ := vc
        replace hR := hR3.trans hR
        refine go_if_eq 202 dX12_onePart_194 rfl (fun q => ?_) (fun q => ?_)
        · replace vc := vc.1 q
          refine go_aload_n (x := 82) dX12_onePart_202 rfl ?_
          refine go_aload_n (x := 82) dX12_onePart_203 rfl ?_
          refine go_getR (x := 104) dX12_onePart_204 f12_78 sh82 (fun _ _ => rfl) (rf82_30 hR) ?_
          refine gvI1 MX12_takes dX12_onePart_207 lX12_305 kX12_takes vX12_takes sh82 (by decide) rfl (Nat.le_of_ble_eq_true rfl) vc ?_
          intro v4 h4 vc
          obtain ⟨hR4, vc⟩ := vc
          replace hR := hR4.trans hR
          refine go_if_eq 218 dX12_onePart_210 rfl (fun q => ?_) (fun q => ?_)
          · replace vc := vc.1 q
            refine go_aload_n (x := 82) dX12_onePart_218 rfl ?_
            refine go_aload_n (x := 82) dX12_onePart_219 rfl ?_
            refine go_getR (x := 105) dX12_onePart_220 f12_81 sh82 (fun _ _ => rfl) (rf82_31 hR) ?_
            refine gvI1 MX12_takes dX12_onePart_223 lX12_305 kX12_takes vX12_takes sh82 (by decide) rfl (Nat.le_of_ble_eq_true rfl) vc ?_
            intro v5 h5 vc
            obtain ⟨hR5, vc⟩ := vc
            replace hR := hR5.trans hR
            refine go_if_eq 234 dX12_onePart_226 rfl (fun q => ?_) (fun q => ?_)
            · replace vc := vc.1 q
              refine go_aload_n (x := 82) dX12_onePart_234 rfl ?_
              refine go_aload_n (x := 82) dX12_onePart_235 rfl ?_
              refine go_getR (x := 91) dX12_onePart_236 f12_39 sh82 (fun _ _ => rfl) (rf82_17 hR) ?_
              refine gvI1 MX12_takes dX12_onePart_239 lX12_305 kX12_takes vX12_takes sh82 (by decide) rfl (Nat.le_of_ble_eq_true rfl) vc ?_
              intro v6 h6 vc
              obtain ⟨hR6, vc⟩ := vc
              replace hR := hR6.trans hR
              refine go_if_eq 250 dX12_onePart_242 rfl (fun q => ?_) (fun q => ?_)
              · replace vc := vc.1 q
                refine go_aload_n (x := 82) dX12_onePart_250 rfl ?_
                refine go_aload_n (x := 82) dX12_onePart_251 rfl ?_
                refine go_getR (x := 106) dX12_onePart_252 f12_84 sh82 (fun _ _ => rfl) (rf82_32 hR) ?_
                refine gvI1 MX12_takes dX12_onePart_255 lX12_305 kX12_takes vX12_takes sh82 (by decide) rfl (Nat.le_of_ble_eq_true rfl) vc ?_
                intro v7 h7 vc
                obtain ⟨hR7, vc⟩ := vc
                replace hR := hR7.trans hR
                refine go_if_eq 266 dX12_onePart_258 rfl (fun q => ?_) (fun q => ?_)
                · replace vc := vc.1 q
                  refine go_aload_n (x := 82) dX12_onePart_266 rfl ?_
                  refine go_aload_n (x := 82) dX12_onePart_267 rfl ?_
                  refine go_getR (x := 107) dX12_onePart_268 f12_87 sh82 (fun _ _ => rfl) (rf82_33 hR) ?_
                  refine gvI1 MX12_takes dX12_onePart_271 lX12_305 kX12_takes vX12_takes sh82 (by decide) rfl (Nat.le_of_ble_eq_true rfl) vc ?_
                  intro v8 h8 vc
                  obtain ⟨hR8, vc⟩ := vc
                  replace hR := hR8.trans hR
                  refine go_if_eq 282 dX12_onePart_274 rfl (fun q => ?_) (fun q => ?_)
                  · replace vc := vc.1 q
                    refine go_aload_n (x := 82) dX12_onePart_282 rfl ?_
                    refine go_getI' (v := (h8.1 82 57)) dX12_onePart_283 f12_370 sh82 (fun _ _ => rfl) rfl ?_
                    refine go_if_ne 305 dX12_onePart_286 rfl (fun q => ?_) (fun q => ?_)
                    · replace vc := vc.1 q
                      exact vc
                    · replace vc := vc.2 q
                      refine go_aload_n (x := 82) dX12_onePart_289 rfl ?_
                      refine go_aload_n (x := 82) dX12_onePart_290 rfl ?_
                      refine go_getR (x := 88) dX12_onePart_291 f12_30 sh82 (fun _ _ => rfl) (rf82_14 hR) ?_
                      refine gvI1 MX12_takes dX12_onePart_294 lX12_305 kX12_takes vX12_takes sh82 (by decide) rfl (Nat.le_of_ble_eq_true rfl) vc ?_
                      intro v9 h9 vc
                      obtain ⟨hR9, vc⟩ := vc
                      replace hR := hR9.trans hR
                      refine go_if_eq 305 dX12_onePart_297 rfl (fun q => ?_) (fun q => ?_)
                      · replace vc := vc.1 q
                        exact vc
                      · replace vc := vc.2 q
                        refine go_bipush (v := 15) dX12_onePart_300 rfl ?_
                        refine go_goto 329 dX12_onePart_302 rfl ?_
                        exact vc
                  · replace vc := vc.2 q
                    refine go_bipush (v := 14) dX12_onePart_277 rfl ?_
                    refine go_goto 329 dX12_onePart_279 rfl ?_
                    exact vc
                · replace vc := vc.2 q
                  refine go_bipush (v := 13) dX12_onePart_261 rfl ?_
                  refine go_goto 329 dX12_onePart_263 rfl ?_
                  exact vc
              · replace vc := vc.2 q
                refine go_bipush (v := 12) dX12_onePart_245 rfl ?_
                refine go_goto 329 dX12_onePart_247 rfl ?_
                exact vc
            · replace vc := vc.2 q
              refine go_bipush (v := 11) dX12_onePart_229 rfl ?_
              refine go_goto 329 dX12_onePart_231 rfl ?_
              exact vc
          · replace vc := vc.2 q
            refine go_bipush (v := 10) dX12_onePart_213 rfl ?_
            refine go_goto 329 dX12_onePart_215 rfl ?_
            exact vc
        · replace vc := vc.2 q
          refine go_bipush (v := 9) dX12_onePart_197 rfl ?_
          refine go_goto 329 dX12_onePart_199 rfl ?_
          exact vc
      · replace vc := vc.2 q
        refine go_bipush (v := 8) dX12_onePart_181 rfl ?_
        refine go_goto 329 dX12_onePart_183 rfl ?_
        exact vc
    · replace vc := vc.2 q
      refine go_bipush (v := 7) dX12_onePart_165 rfl ?_
      refine go_goto 329 dX12_onePart_167 rfl ?_
      exact vc
  · replace vc := vc.2 q
    exact go_vret dX12_onePart_153 rfl vc rfl (Nat.le_refl _) (Nat.le_refl _)
set_option maxRecDepth 20000 in
theorem wX12_onePart_305 {p : Program} {l : Launch} {e : Env} {s : State} {m : MethodId} {args : Array Value} {below : List Frame} {meth : Method} {c : Code} {G : gG} {d : Nat} {Q : Option Value → gH → Prop} {h : gH} {lk sp : Nat} {cd : Option Nat} {x1 : Int32} (hR : h.2.2 = gRF lk sp cd) (hlk : lk = 30 ∨ lk = 67) (hsp : sp = 30 ∨ sp = 67)  (vc : ((¬ (h.1 82 57) = 0 → gg p l e s m args below meth c G (d + 1) MX12_onePart Q 328 [some (.ref 82), some (.int x1), none, none, none] [] h) ∧ ((h.1 82 57) = 0 → gC l G d MX12_takes [.ref 82, .ref 108] h (rI fun v1 h1 => h1.2.2 = (h).2.2 ∧ ((v1 = 0 → gg p l e s m args below meth c G (d + 1) MX12_onePart Q 328 [some (.ref 82), some (.int x1), none, none, none] [] h1) ∧ (¬ v1 = 0 → gg p l e s m args below meth c G (d + 1) MX12_onePart Q 329 [some (.ref 82), some (.int x1), none, none, none] [.int 16] h1)))))) : gg p l e s m args below meth c G (d + 1) MX12_onePart Q 305 [some (.ref 82), some (.int x1), none, none, none] [] h := by
  refine go_aload_n (x := 82) dX12_onePart_305 rfl ?_
  refine go_getI' (v := (h.1 82 57)) dX12_onePart_306 f12_370 sh82 (fun _ _ => rfl) rfl ?_
  refine go_if_ne 328 dX12_onePart_309 rfl (fun q => ?_) (fun q => ?_)
  · replace vc := vc.1 q
    exact vc
  · replace vc := vc.2 q
    refine go_aload_n (x := 82) dX12_onePart_312 rfl ?_
    refine go_aload_n (x := 82) dX12_onePart_313 rfl ?_
    refine go_getR (x := 108) dX12_onePart_314 f12_90 sh82 (fun _ _ => rfl) (rf82_34 hR) ?_
    refine gvI1 MX12_takes dX12_onePart_317 lX12_305 kX12_takes vX12_takes sh82 (by decide) rfl (Nat.le_of_ble_eq_true rfl) vc ?_
    intro v1 h1 vc
    obtain ⟨hR1, vc⟩ := vc
    replace hR := hR1.trans hR
    refine go_if_eq 328 dX12_onePart_320 rfl (fun q => ?_) (fun q => ?_)
    · replace vc := vc.1 q
      exact vc
    · replace vc := vc.2 q
      refine go_bipush (v := 16) dX12_onePart_323 rfl ?_
      refine go_goto 329 dX12_onePart_325 rfl ?_
      exact vc
set_option maxRecDepth 20000 in
theorem wX12_onePart_328 {p : Program} {l : Launch} {e : Env} {s : State} {m : MethodId} {args : Array Value} {below : List Frame} {meth : Method} {c : Code} {G : gG} {d : Nat} {Q : Option Value → gH → Prop} {h : gH} {lk sp : Nat} {cd : Option Nat} {x1 : Int32} (hR : h.2.2 = gRF lk sp cd) (hlk : lk = 30 ∨ lk = 67) (hsp : sp = 30 ∨ sp = 67)  (vc : gg p l e s m args below meth c G (d + 1) MX12_onePart Q 329 [some (.ref 82), some (.int x1), none, none, none] [.int (-1)] h) : gg p l e s m args below meth c G (d + 1) MX12_onePart Q 328 [some (.ref 82), some (.int x1), none, none, none] [] h := by
  refine go_iconst (v := (-1)) dX12_onePart_328 rfl ?_
  exact vc
set_option maxRecDepth 20000 in
theorem wX12_onePart_329 {p : Program} {l : Launch} {e : Env} {s : State} {m : MethodId} {args : Array Value} {below : List Frame} {meth : Method} {c : Code} {G : gG} {d : Nat} {Q : Option Value → gH → Prop} {h : gH} {lk sp : Nat} {cd : Option Nat} {x1 : Int32} {y0 : Int32} (hR : h.2.2 = gRF lk sp cd) (hlk : lk = 30 ∨ lk = 67) (hsp : sp = 30 ∨ sp = 67)  (vc : ((y0 = (-1) → gC l G d MX12_number [.ref 82, .int 0, .int 9999] h (rI fun v1 h1 => h1.2.2 = (h).2.2 ∧ gC l G d MX12_code [.ref 82, .int (1000 + v1)] h1 (rV fun h2 => h2.2.2 = (h1).2.2 ∧ Q none h2))) ∧ (¬ y0 = (-1) → gC l G d MX12_code [.ref 82, .int y0] h (rV fun h3 => h3.2.2 = (h).2.2 ∧ Q none h3)))) : gg p l e s m args below meth c G (d + 1) MX12_onePart Q 329 [some (.ref 82), some (.int x1), none, none, none] [.int y0] h := by
  refine go_istore_n dX12_onePart_329 (Nat.le_of_ble_eq_true rfl) ?_
  show gg p l e s m args below meth c G (d + 1) MX12_onePart Q 330 [some (.ref 82), some (.int x1), some (.int y0), none, none] [] h
  refine go_aload_n (x := 82) dX12_onePart_330 rfl ?_
  refine go_iload_n (x := y0) dX12_onePart_331 rfl ?_
  refine go_iconst (v := (-1)) dX12_onePart_332 rfl ?_
  refine go_icmp_eq 340 dX12_onePart_333 rfl (fun q => ?_) (fun q => ?_)
  · replace vc := vc.1 q
    refine go_sipush (v := 1000) dX12_onePart_340 rfl ?_
    refine go_aload_n (x := 82) dX12_onePart_343 rfl ?_
    refine go_iconst (v := 0) dX12_onePart_344 rfl ?_
    refine go_sipush (v := 9999) dX12_onePart_345 rfl ?_
    refine gvI2 MX12_number dX12_onePart_348 lX12_348 kX12_number vX12_number sh82 (by decide) rfl (Nat.le_of_ble_eq_true rfl) vc ?_
    intro v1 h1 vc
    obtain ⟨hR1, vc⟩ := vc
    replace hR := hR1.trans hR
    refine go_iadd dX12_onePart_351 ?_
    refine gvV1 MX12_code dX12_onePart_352 lX12_431 kX12_code vX12_code sh82 (by decide) rfl (Nat.le_of_ble_eq_true rfl) vc ?_
    intro h2 vc
    obtain ⟨hR2, vc⟩ := vc
    replace hR := hR2.trans hR
    exact go_vret dX12_onePart_355 rfl vc rfl (Nat.le_refl _) (Nat.le_refl _)
  · replace vc := vc.2 q
    refine go_iload_n (x := y0) dX12_onePart_336 rfl ?_
    refine go_goto 352 dX12_onePart_337 rfl ?_
    refine gvV1 MX12_code dX12_onePart_352 lX12_431 kX12_code vX12_code sh82 (by decide) rfl (Nat.le_of_ble_eq_true rfl) vc ?_
    intro h3 vc
    obtain ⟨hR3, vc⟩ := vc
    replace hR := hR3.trans hR
    exact go_vret dX12_onePart_355 rfl vc rfl (Nat.le_refl _) (Nat.le_refl _)
set_option maxRecDepth 20000 in
theorem wX12_goesOn_0 {p : Program} {l : Launch} {e : Env} {s : State} {m : MethodId} {args : Array Value} {below : List Frame} {meth : Method} {c : Code} {G : gG} {d : Nat} {Q : Option Value → gH → Prop} {h : gH} {lk sp : Nat} {cd : Option Nat}  (hR : h.2.2 = gRF lk sp cd) (hlk : lk = 30 ∨ lk = 67) (hsp : sp = 30 ∨ sp = 67)  (vc : ((¬ (h.1 82 5) = 0 → gg p l e s m args below meth c G (d + 1) MX12_goesOn Q 118 [some (.ref 82), none] [] h) ∧ ((h.1 82 5) = 0 → gC l G d MX12_look [.ref 82] h (rI fun v1 h1 => h1.2.2 = (h).2.2 ∧ ((¬ v1 = 41 → gg p l e s m args below meth c G (d + 1) MX12_goesOn Q 118 [some (.ref 82), none] [] h1) ∧ (v1 = 41 → gC l G d MX12_waitsLast [.ref 82] h1 (rI fun v2 h2 => h2.2.2 = (h1).2.2 ∧ ((v2 = 20 → gg p l e s m args below meth c G (d + 1) MX12_goesOn Q 43 [some (.ref 82), none] [] h2) ∧ (¬ v2 = 20 → gC l G d MX12_waitsLast [.ref 82] h2 (rI fun v3 h3 => h3.2.2 = (h2).2.2 ∧ ((v3 = 23 → gg p l e s m args below meth c G (d + 1) MX12_goesOn Q 43 [some (.ref 82), none] [] h3) ∧ (¬ v3 = 23 → gC l G d MX12_waitsLast [.ref 82] h3 (rI fun v4 h4 => h4.2.2 = (h3).2.2 ∧ ((¬ v4 = 24 → gg p l e s m args below meth c G (d + 1) MX12_goesOn Q 118 [some (.ref 82), none] [] h4) ∧ (v4 = 24 → gg p l e s m args below meth c G (d + 1) MX12_goesOn Q 43 [some (.ref 82), none] [] h4))))))))))))))) : gg p l e s m args below meth c G (d + 1) MX12_goesOn Q 0 [some (.ref 82), none] [] h := by
  refine go_aload_n (x := 82) dX12_goesOn_0 rfl ?_
  refine go_getI' (v := (h.1 82 5)) dX12_goesOn_1 f12_278 sh82 (fun _ _ => rfl) rfl ?_
  refine go_if_ne 118 dX12_goesOn_4 rfl (fun q => ?_) (fun q => ?_)
  · replace vc := vc.1 q
    exact vc
  · replace vc := vc.2 q
    refine go_aload_n (x := 82) dX12_goesOn_7 rfl ?_
    refine gvI0 MX12_look dX12_goesOn_8 lX12_290 kX12_look vX12_look sh82 (by decide) rfl (Nat.le_of_ble_eq_true rfl) vc ?_
    intro v1 h1 vc
    obtain ⟨hR1, vc⟩ := vc
    replace hR := hR1.trans hR
    refine go_bipush (v := 41) dX12_goesOn_11 rfl ?_
    refine go_icmp_ne 118 dX12_goesOn_13 rfl (fun q => ?_) (fun q => ?_)
    · replace vc := vc.1 q
      exact vc
    · replace vc := vc.2 q
      refine go_aload_n (x := 82) dX12_goesOn_16 rfl ?_
      refine gvI0 MX12_waitsLast dX12_goesOn_17 lX12_443 kX12_waitsLast vX12_waitsLast sh82 (by decide) rfl (Nat.le_of_ble_eq_true rfl) vc ?_
      intro v2 h2 vc
      obtain ⟨hR2, vc⟩ := vc
      replace hR := hR2.trans hR
      refine go_bipush (v := 20) dX12_goesOn_20 rfl ?_
      refine go_icmp_eq 43 dX12_goesOn_22 rfl (fun q => ?_) (fun q => ?_)
      · replace vc := vc.1 q
        exact vc
      · replace vc := vc.2 q
        refine go_aload_n (x := 82) dX12_goesOn_25 rfl ?_
        refine gvI0 MX12_waitsLast dX12_goesOn_26 lX12_443 kX12_waitsLast vX12_waitsLast sh82 (by decide) rfl (Nat.le_of_ble_eq_true rfl) vc ?_
        intro v3 h3 vc
        obtain ⟨hR3, vc⟩ := vc
        replace hR := hR3.trans hR
        refine go_bipush (v := 23) dX12_goesOn_29 rfl ?_
        refine go_icmp_eq 43 dX12_goesOn_31 rfl (fun q => ?_) (fun q => ?_)
        · replace vc := vc.1 q
          exact vc
        · replace vc := vc.2 q
          refine go_aload_n (x := 82) dX12_goesOn_34 rfl ?_
          refine gvI0 MX12_waitsLast dX12_goesOn_35 lX12_443 kX12_waitsLast vX12_waitsLast sh82 (by decide) rfl (Nat.le_of_ble_eq_true rfl) vc ?_
          intro v4 h4 vc
          obtain ⟨hR4, vc⟩ := vc
          replace hR := hR4.trans hR
          refine go_bipush (v := 24) dX12_goesOn_38 rfl ?_
          refine go_icmp_ne 118 dX12_goesOn_40 rfl (fun q => ?_) (fun q => ?_)
          · replace vc := vc.1 q
            exact vc
          · replace vc := vc.2 q
            exact vc
set_option maxRecDepth 20000 in
theorem wX12_goesOn_43 {p : Program} {l : Launch} {e : Env} {s : State} {m : MethodId} {args : Array Value} {below : List Frame} {meth : Method} {c : Code} {G : gG} {d : Nat} {Q : Option Value → gH → Prop} {h : gH} {lk sp : Nat} {cd : Option Nat}  (hR : h.2.2 = gRF lk sp cd) (hlk : lk = 30 ∨ lk = 67) (hsp : sp = 30 ∨ sp = 67)  (vc : gC l G d MX12_dropsToMark [.ref 82] (sI h 82 2 ((h.1 82 2) + 1)) (rV fun h1 => h1.2.2 = ((sI h 82 2 ((h.1 82 2) + 1))).2.2 ∧ (vp_in (((h1.1 82 62) - 1)) 1700 ∧ (((h1.1 130 (((h1.1 82 62) - 1) : Int32).toNatClampNeg) = 20 → gg p l e s m args below meth c G (d + 1) MX12_goesOn Q 0 [some (.ref 82), none] [] (sI (sI h1 82 62 ((h1.1 82 62) - 1)) 82 63 ((h1.1 82 63) - 1))) ∧ (¬ (h1.1 130 (((h1.1 82 62) - 1) : Int32).toNatClampNeg) = 20 → (vp_in (((h1.1 82 62) - 1)) 1700 ∧ ((¬ (h1.1 130 (((h1.1 82 62) - 1) : Int32).toNatClampNeg) = 23 → gC l G d MX12_code [.ref 82, .int 6] (sI (sI h1 82 62 ((h1.1 82 62) - 1)) 82 63 ((h1.1 82 63) - 1)) (rV fun h2 => h2.2.2 = ((sI (sI h1 82 62 ((h1.1 82 62) - 1)) 82 63 ((h1.1 82 63) - 1))).2.2 ∧ gg p l e s m args below meth c G (d + 1) MX12_goesOn Q 0 [some (.ref 82), none] [] h2)) ∧ ((h1.1 130 (((h1.1 82 62) - 1) : Int32).toNatClampNeg) = 23 → gC l G d MX12_code [.ref 82, .int 5] (sI (sI h1 82 62 ((h1.1 82 62) - 1)) 82 63 ((h1.1 82 63) - 1)) (rV fun h3 => h3.2.2 = ((sI (sI h1 82 62 ((h1.1 82 62) - 1)) 82 63 ((h1.1 82 63) - 1))).2.2 ∧ gg p l e s m args below meth c G (d + 1) MX12_goesOn Q 0 [some (.ref 82), none] [] h3))))))))) : gg p l e s m args below meth c G (d + 1) MX12_goesOn Q 43 [some (.ref 82), none] [] h := by
  refine go_aload_n (x := 82) dX12_goesOn_43 rfl ?_
  refine go_dup dX12_goesOn_44 rfl ?_
  refine go_getI' (v := (h.1 82 2)) dX12_goesOn_45 f12_284 sh82 (fun _ _ => rfl) rfl ?_
  refine go_iconst (v := 1) dX12_goesOn_48 rfl ?_
  refine go_iadd dX12_goesOn_49 ?_
  refine go_putI dX12_goesOn_50 f12_284 sh82 rfl rfl ?_
  refine go_aload_n (x := 82) dX12_goesOn_53 rfl ?_
  refine gvV0 MX12_dropsToMark dX12_goesOn_54 lX12_446 kX12_dropsToMark vX12_dropsToMark sh82 (by decide) rfl (Nat.le_of_ble_eq_true rfl) vc ?_
  intro h1 vc
  obtain ⟨hR1, vc⟩ := vc
  replace hR := hR1.trans hR
  refine go_aload_n (x := 82) dX12_goesOn_57 rfl ?_
  refine go_dup dX12_goesOn_58 rfl ?_
  refine go_getI' (v := (h1.1 82 62)) dX12_goesOn_59 f12_377 sh82 (fun _ _ => rfl) rfl ?_
  refine go_iconst (v := 1) dX12_goesOn_62 rfl ?_
  refine go_isub dX12_goesOn_63 ?_
  refine go_putI dX12_goesOn_64 f12_377 sh82 rfl rfl ?_
  refine go_aload_n (x := 82) dX12_goesOn_67 rfl ?_
  refine go_dup dX12_goesOn_68 rfl ?_
  refine go_getI' (v := (h1.1 82 63)) dX12_goesOn_69 f12_380 sh82 (fun _ _ => rfl) rfl ?_
  refine go_iconst (v := 1) dX12_goesOn_72 rfl ?_
  refine go_isub dX12_goesOn_73 ?_
  refine go_putI dX12_goesOn_74 f12_380 sh82 rfl rfl ?_
  refine go_aload_n (x := 82) dX12_goesOn_77 rfl ?_
  refine go_getR (x := 130) dX12_goesOn_78 f12_157 sh82 (fun _ _ => rfl) (rf82_61 hR) ?_
  refine go_aload_n (x := 82) dX12_goesOn_81 rfl ?_
  refine go_getI' (v := ((h1.1 82 62) - 1)) dX12_goesOn_82 f12_377 sh82 (fun _ _ => rfl) rfl ?_
  refine go_iald' (v := (h1.1 130 (((h1.1 82 62) - 1) : Int32).toNatClampNeg)) dX12_goesOn_85 sh130 vc.1 rfl ?_
  have vc := vc.2
  refine go_bipush (v := 20) dX12_goesOn_86 rfl ?_
  refine go_icmp_eq 0 dX12_goesOn_88 rfl (fun q => ?_) (fun q => ?_)
  · replace vc := vc.1 q
    exact vc
  · replace vc := vc.2 q
    refine go_aload_n (x := 82) dX12_goesOn_91 rfl ?_
    refine go_aload_n (x := 82) dX12_goesOn_92 rfl ?_
    refine go_getR (x := 130) dX12_goesOn_93 f12_157 sh82 (fun _ _ => rfl) (rf82_61 hR) ?_
    refine go_aload_n (x := 82) dX12_goesOn_96 rfl ?_
    refine go_getI' (v := ((h1.1 82 62) - 1)) dX12_goesOn_97 f12_377 sh82 (fun _ _ => rfl) rfl ?_
    refine go_iald' (v := (h1.1 130 (((h1.1 82 62) - 1) : Int32).toNatClampNeg)) dX12_goesOn_100 sh130 vc.1 rfl ?_
    have vc := vc.2
    refine go_bipush (v := 23) dX12_goesOn_101 rfl ?_
    refine go_icmp_ne 110 dX12_goesOn_103 rfl (fun q => ?_) (fun q => ?_)
    · replace vc := vc.1 q
      refine go_bipush (v := 6) dX12_goesOn_110 rfl ?_
      refine gvV1 MX12_code dX12_goesOn_112 lX12_431 kX12_code vX12_code sh82 (by decide) rfl (Nat.le_of_ble_eq_true rfl) vc ?_
      intro h2 vc
      obtain ⟨hR2, vc⟩ := vc
      replace hR := hR2.trans hR
      refine go_goto 0 dX12_goesOn_115 rfl ?_
      exact vc
    · replace vc := vc.2 q
      refine go_iconst (v := 5) dX12_goesOn_106 rfl ?_
      refine go_goto 112 dX12_goesOn_107 rfl ?_
      refine gvV1 MX12_code dX12_goesOn_112 lX12_431 kX12_code vX12_code sh82 (by decide) rfl (Nat.le_of_ble_eq_true rfl) vc ?_
      intro h3 vc
      obtain ⟨hR3, vc⟩ := vc
      replace hR := hR3.trans hR
      refine go_goto 0 dX12_goesOn_115 rfl ?_
      exact vc
set_option maxRecDepth 20000 in
theorem wX12_goesOn_118 {p : Program} {l : Launch} {e : Env} {s : State} {m : MethodId} {args : Array Value} {below : List Frame} {meth : Method} {c : Code} {G : gG} {d : Nat} {Q : Option Value → gH → Prop} {h : gH} {lk sp : Nat} {cd : Option Nat}  (hR : h.2.2 = gRF lk sp cd) (hlk : lk = 30 ∨ lk = 67) (hsp : sp = 30 ∨ sp = 67)  (vc : gC l G d MX12_takesSign [.ref 82, .int 42] h (rI fun v1 h1 => h1.2.2 = (h).2.2 ∧ ((¬ v1 = 0 → gg p l e s m args below meth c G (d + 1) MX12_goesOn Q 136 [some (.ref 82), none] [] h1) ∧ (v1 = 0 → gC l G d MX12_takesSign [.ref 82, .int 47] h1 (rI fun v2 h2 => h2.2.2 = (h1).2.2 ∧ ((v2 = 0 → gC l G d MX12_takesSign [.ref 82, .int 43] h2 (rI fun v3 h3 => h3.2.2 = (h2).2.2 ∧ ((¬ v3 = 0 → gg p l e s m args below meth c G (d + 1) MX12_goesOn Q 221 [some (.ref 82), none] [] h3) ∧ (v3 = 0 → gC l G d MX12_takesSign [.ref 82, .int 45] h3 (rI fun v4 h4 => h4.2.2 = (h3).2.2 ∧ ((v4 = 0 → gC l G d MX12_waitsLast [.ref 82] h4 (rI fun v5 h5 => h5.2.2 = (h4).2.2 ∧ ((v5 = 21 → gg p l e s m args below meth c G (d + 1) MX12_goesOn Q 322 [some (.ref 82), none] [] h5) ∧ (¬ v5 = 21 → gC l G d MX12_waitsLast [.ref 82] h5 (rI fun v6 h6 => h6.2.2 = (h5).2.2 ∧ ((¬ v6 = 22 → gC l G d MX12_waitsLast [.ref 82] h6 (rI fun v7 h7 => h7.2.2 = (h6).2.2 ∧ ((v7 = (-1) → gg p l e s m args below meth c G (d + 1) MX12_goesOn Q 382 [some (.ref 82), none] [] h7) ∧ (¬ v7 = (-1) → ((¬ (h7.1 82 5) = 0 → gg p l e s m args below meth c G (d + 1) MX12_goesOn Q 382 [some (.ref 82), none] [] h7) ∧ ((h7.1 82 5) = 0 → gC l G d MX12_fail [.ref 82, .int 1, .int (h7.1 82 2)] h7 (rV fun h8 => h8.2.2 = (h7).2.2 ∧ gg p l e s m args below meth c G (d + 1) MX12_goesOn Q 382 [some (.ref 82), none] [] h8))))))) ∧ (v6 = 22 → gg p l e s m args below meth c G (d + 1) MX12_goesOn Q 322 [some (.ref 82), none] [] h6))))))) ∧ (¬ v4 = 0 → gg p l e s m args below meth c G (d + 1) MX12_goesOn Q 221 [some (.ref 82), none] [] h4))))))) ∧ (¬ v2 = 0 → gg p l e s m args below meth c G (d + 1) MX12_goesOn Q 136 [some (.ref 82), none] [] h2))))))) : gg p l e s m args below meth c G (d + 1) MX12_goesOn Q 118 [some (.ref 82), none] [] h := by
  refine go_aload_n (x := 82) dX12_goesOn_118 rfl ?_
  refine go_bipush (v := 42) dX12_goesOn_119 rfl ?_
  refine gvI1 MX12_takesSign dX12_goesOn_121 lX12_312 kX12_takesSign vX12_takesSign sh82 (by decide) rfl (Nat.le_of_ble_eq_true rfl) vc ?_
  intro v1 h1 vc
  obtain ⟨hR1, vc⟩ := vc
  replace hR := hR1.trans hR
  refine go_if_ne 136 dX12_goesOn_124 rfl (fun q => ?_) (fun q => ?_)
  · replace vc := vc.1 q
    exact vc
  · replace vc := vc.2 q
    refine go_aload_n (x := 82) dX12_goesOn_127 rfl ?_
    refine go_bipush (v := 47) dX12_goesOn_128 rfl ?_
    refine gvI1 MX12_takesSign dX12_goesOn_130 lX12_312 kX12_takesSign vX12_takesSign sh82 (by decide) rfl (Nat.le_of_ble_eq_true rfl) vc ?_
    intro v2 h2 vc
    obtain ⟨hR2, vc⟩ := vc
    replace hR := hR2.trans hR
    refine go_if_eq 203 dX12_goesOn_133 rfl (fun q => ?_) (fun q => ?_)
    · replace vc := vc.1 q
      refine go_aload_n (x := 82) dX12_goesOn_203 rfl ?_
      refine go_bipush (v := 43) dX12_goesOn_204 rfl ?_
      refine gvI1 MX12_takesSign dX12_goesOn_206 lX12_312 kX12_takesSign vX12_takesSign sh82 (by decide) rfl (Nat.le_of_ble_eq_true rfl) vc ?_
      intro v3 h3 vc
      obtain ⟨hR3, vc⟩ := vc
      replace hR := hR3.trans hR
      refine go_if_ne 221 dX12_goesOn_209 rfl (fun q => ?_) (fun q => ?_)
      · replace vc := vc.1 q
        exact vc
      · replace vc := vc.2 q
        refine go_aload_n (x := 82) dX12_goesOn_212 rfl ?_
        refine go_bipush (v := 45) dX12_goesOn_213 rfl ?_
        refine gvI1 MX12_takesSign dX12_goesOn_215 lX12_312 kX12_takesSign vX12_takesSign sh82 (by decide) rfl (Nat.le_of_ble_eq_true rfl) vc ?_
        intro v4 h4 vc
        obtain ⟨hR4, vc⟩ := vc
        replace hR := hR4.trans hR
        refine go_if_eq 304 dX12_goesOn_218 rfl (fun q => ?_) (fun q => ?_)
        · replace vc := vc.1 q
          refine go_aload_n (x := 82) dX12_goesOn_304 rfl ?_
          refine gvI0 MX12_waitsLast dX12_goesOn_305 lX12_443 kX12_waitsLast vX12_waitsLast sh82 (by decide) rfl (Nat.le_of_ble_eq_true rfl) vc ?_
          intro v5 h5 vc
          obtain ⟨hR5, vc⟩ := vc
          replace hR := hR5.trans hR
          refine go_bipush (v := 21) dX12_goesOn_308 rfl ?_
          refine go_icmp_eq 322 dX12_goesOn_310 rfl (fun q => ?_) (fun q => ?_)
          · replace vc := vc.1 q
            exact vc
          · replace vc := vc.2 q
            refine go_aload_n (x := 82) dX12_goesOn_313 rfl ?_
            refine gvI0 MX12_waitsLast dX12_goesOn_314 lX12_443 kX12_waitsLast vX12_waitsLast sh82 (by decide) rfl (Nat.le_of_ble_eq_true rfl) vc ?_
            intro v6 h6 vc
            obtain ⟨hR6, vc⟩ := vc
            replace hR := hR6.trans hR
            refine go_bipush (v := 22) dX12_goesOn_317 rfl ?_
            refine go_icmp_ne 358 dX12_goesOn_319 rfl (fun q => ?_) (fun q => ?_)
            · replace vc := vc.1 q
              refine go_aload_n (x := 82) dX12_goesOn_358 rfl ?_
              refine gvI0 MX12_waitsLast dX12_goesOn_359 lX12_443 kX12_waitsLast vX12_waitsLast sh82 (by decide) rfl (Nat.le_of_ble_eq_true rfl) vc ?_
              intro v7 h7 vc
              obtain ⟨hR7, vc⟩ := vc
              replace hR := hR7.trans hR
              refine go_iconst (v := (-1)) dX12_goesOn_362 rfl ?_
              refine go_icmp_eq 382 dX12_goesOn_363 rfl (fun q => ?_) (fun q => ?_)
              · replace vc := vc.1 q
                exact vc
              · replace vc := vc.2 q
                refine go_aload_n (x := 82) dX12_goesOn_366 rfl ?_
                refine go_getI' (v := (h7.1 82 5)) dX12_goesOn_367 f12_278 sh82 (fun _ _ => rfl) rfl ?_
                refine go_if_ne 382 dX12_goesOn_370 rfl (fun q => ?_) (fun q => ?_)
                · replace vc := vc.1 q
                  exact vc
                · replace vc := vc.2 q
                  refine go_aload_n (x := 82) dX12_goesOn_373 rfl ?_
                  refine go_iconst (v := 1) dX12_goesOn_374 rfl ?_
                  refine go_aload_n (x := 82) dX12_goesOn_375 rfl ?_
                  refine go_getI' (v := (h7.1 82 2)) dX12_goesOn_376 f12_284 sh82 (fun _ _ => rfl) rfl ?_
                  refine gvV2 MX12_fail dX12_goesOn_379 lX12_308 kX12_fail vX12_fail sh82 (by decide) rfl (Nat.le_of_ble_eq_true rfl) vc ?_
                  intro h8 vc
                  obtain ⟨hR8, vc⟩ := vc
                  replace hR := hR8.trans hR
                  exact vc
            · replace vc := vc.2 q
              exact vc
        · replace vc := vc.2 q
          exact vc
    · replace vc := vc.2 q
      exact vc
set_option maxRecDepth 20000 in
theorem wX12_goesOn_136 {p : Program} {l : Launch} {e : Env} {s : State} {m : MethodId} {args : Array Value} {below : List Frame} {meth : Method} {c : Code} {G : gG} {d : Nat} {Q : Option Value → gH → Prop} {h : gH} {lk sp : Nat} {cd : Option Nat}  (hR : h.2.2 = gRF lk sp cd) (hlk : lk = 30 ∨ lk = 67) (hsp : sp = 30 ∨ sp = 67)  (vc : (vp_in (((h.1 82 2) - 1)) 1600 ∧ ((¬ (h.1 83 (((h.1 82 2) - 1) : Int32).toNatClampNeg) = 42 → gg p l e s m args below meth c G (d + 1) MX12_goesOn Q 158 [some (.ref 82), some (.int 4)] [] h) ∧ ((h.1 83 (((h.1 82 2) - 1) : Int32).toNatClampNeg) = 42 → gg p l e s m args below meth c G (d + 1) MX12_goesOn Q 158 [some (.ref 82), some (.int 3)] [] h)))) : gg p l e s m args below meth c G (d + 1) MX12_goesOn Q 136 [some (.ref 82), none] [] h := by
  refine go_aload_n (x := 82) dX12_goesOn_136 rfl ?_
  refine go_getR (x := 83) dX12_goesOn_137 f12_7 sh82 (fun _ _ => rfl) (rf82_0 hR) ?_
  refine go_aload_n (x := 82) dX12_goesOn_140 rfl ?_
  refine go_getI' (v := (h.1 82 2)) dX12_goesOn_141 f12_284 sh82 (fun _ _ => rfl) rfl ?_
  refine go_iconst (v := 1) dX12_goesOn_144 rfl ?_
  refine go_isub dX12_goesOn_145 ?_
  refine go_iald' (v := (h.1 83 (((h.1 82 2) - 1) : Int32).toNatClampNeg)) dX12_goesOn_146 sh83 vc.1 rfl ?_
  have vc := vc.2
  refine go_bipush (v := 42) dX12_goesOn_147 rfl ?_
  refine go_icmp_ne 156 dX12_goesOn_149 rfl (fun q => ?_) (fun q => ?_)
  · replace vc := vc.1 q
    refine go_iconst (v := 4) dX12_goesOn_156 rfl ?_
    refine go_istore_n dX12_goesOn_157 (Nat.le_of_ble_eq_true rfl) ?_
    show gg p l e s m args below meth c G (d + 1) MX12_goesOn Q 158 [some (.ref 82), some (.int 4)] [] h
    exact vc
  · replace vc := vc.2 q
    refine go_iconst (v := 3) dX12_goesOn_152 rfl ?_
    refine go_goto 157 dX12_goesOn_153 rfl ?_
    refine go_istore_n dX12_goesOn_157 (Nat.le_of_ble_eq_true rfl) ?_
    show gg p l e s m args below meth c G (d + 1) MX12_goesOn Q 158 [some (.ref 82), some (.int 3)] [] h
    exact vc
set_option maxRecDepth 20000 in
theorem wX12_goesOn_158 {p : Program} {l : Launch} {e : Env} {s : State} {m : MethodId} {args : Array Value} {below : List Frame} {meth : Method} {c : Code} {G : gG} {d : Nat} {Q : Option Value → gH → Prop} {h : gH} {lk sp : Nat} {cd : Option Nat} {x1 : Int32} (hR : h.2.2 = gRF lk sp cd) (hlk : lk = 30 ∨ lk = 67) (hsp : sp = 30 ∨ sp = 67)  (vc : gC l G d MX12_isOn [.ref 82, .int 3] h (rI fun v1 h1 => h1.2.2 = (h).2.2 ∧ ((¬ v1 = 0 → gg p l e s m args below meth c G (d + 1) MX12_goesOn Q 174 [some (.ref 82), some (.int x1)] [] h1) ∧ (v1 = 0 → gC l G d MX12_isOn [.ref 82, .int 4] h1 (rI fun v2 h2 => h2.2.2 = (h1).2.2 ∧ ((v2 = 0 → (vp_in ((h2.1 82 62)) 1700 ∧ Q (some (.int 1)) (sI (sI h2 130 ((h2.1 82 62) : Int32).toNatClampNeg x1) 82 62 ((h2.1 82 62) + 1)))) ∧ (¬ v2 = 0 → gg p l e s m args below meth c G (d + 1) MX12_goesOn Q 174 [some (.ref 82), some (.int x1)] [] h2))))))) : gg p l e s m args below meth c G (d + 1) MX12_goesOn Q 158 [some (.ref 82), some (.int x1)] [] h := by
  refine go_aload_n (x := 82) dX12_goesOn_158 rfl ?_
  refine go_iconst (v := 3) dX12_goesOn_159 rfl ?_
  refine gvI1 MX12_isOn dX12_goesOn_160 lX12_449 kX12_isOn vX12_isOn sh82 (by decide) rfl (Nat.le_of_ble_eq_true rfl) vc ?_
  intro v1 h1 vc
  obtain ⟨hR1, vc⟩ := vc
  replace hR := hR1.trans hR
  refine go_if_ne 174 dX12_goesOn_163 rfl (fun q => ?_) (fun q => ?_)
  · replace vc := vc.1 q
    exact vc
  · replace vc := vc.2 q
    refine go_aload_n (x := 82) dX12_goesOn_166 rfl ?_
    refine go_iconst (v := 4) dX12_goesOn_167 rfl ?_
    refine gvI1 MX12_isOn dX12_goesOn_168 lX12_449 kX12_isOn vX12_isOn sh82 (by decide) rfl (Nat.le_of_ble_eq_true rfl) vc ?_
    intro v2 h2 vc
    obtain ⟨hR2, vc⟩ := vc
    replace hR := hR2.trans hR
    refine go_if_eq 181 dX12_goesOn_171 rfl (fun q => ?_) (fun q => ?_)
    · replace vc := vc.1 q
      refine go_aload_n (x := 82) dX12_goesOn_181 rfl ?_
      refine go_getR (x := 130) dX12_goesOn_182 f12_157 sh82 (fun _ _ => rfl) (rf82_61 hR) ?_
      refine go_aload_n (x := 82) dX12_goesOn_185 rfl ?_
      refine go_getI' (v := (h2.1 82 62)) dX12_goesOn_186 f12_377 sh82 (fun _ _ => rfl) rfl ?_
      refine go_iload_n (x := x1) dX12_goesOn_189 rfl ?_
      refine go_iast dX12_goesOn_190 sh130 vc.1 ?_
      have vc := vc.2
      show gg p l e s m args below meth c G (d + 1) MX12_goesOn Q 191 [some (.ref 82), some (.int x1)] [] (sI h2 130 ((h2.1 82 62) : Int32).toNatClampNeg x1)
      refine go_aload_n (x := 82) dX12_goesOn_191 rfl ?_
      refine go_dup dX12_goesOn_192 rfl ?_
      refine go_getI' (v := (h2.1 82 62)) dX12_goesOn_193 f12_377 sh82 (fun _ _ => rfl) rfl ?_
      refine go_iconst (v := 1) dX12_goesOn_196 rfl ?_
      refine go_iadd dX12_goesOn_197 ?_
      refine go_putI dX12_goesOn_198 f12_377 sh82 rfl rfl ?_
      refine go_iconst (v := 1) dX12_goesOn_201 rfl ?_
      exact go_zret dX12_goesOn_202 rfl (by decide) vc rfl (Nat.le_refl _) (Nat.le_refl _)
    · replace vc := vc.2 q
      exact vc
set_option maxRecDepth 20000 in
theorem wX12_goesOn_174 {p : Program} {l : Launch} {e : Env} {s : State} {m : MethodId} {args : Array Value} {below : List Frame} {meth : Method} {c : Code} {G : gG} {d : Nat} {Q : Option Value → gH → Prop} {h : gH} {lk sp : Nat} {cd : Option Nat} {x1 : Int32} (hR : h.2.2 = gRF lk sp cd) (hlk : lk = 30 ∨ lk = 67) (hsp : sp = 30 ∨ sp = 67)  (vc : gC l G d MX12_drops [.ref 82] h (rV fun h1 => h1.2.2 = (h).2.2 ∧ gg p l e s m args below meth c G (d + 1) MX12_goesOn Q 158 [some (.ref 82), some (.int x1)] [] h1)) : gg p l e s m args below meth c G (d + 1) MX12_goesOn Q 174 [some (.ref 82), some (.int x1)] [] h := by
  refine go_aload_n (x := 82) dX12_goesOn_174 rfl ?_
  refine gvV0 MX12_drops dX12_goesOn_175 lX12_437 kX12_drops vX12_drops sh82 (by decide) rfl (Nat.le_of_ble_eq_true rfl) vc ?_
  intro h1 vc
  obtain ⟨hR1, vc⟩ := vc
  replace hR := hR1.trans hR
  refine go_goto 158 dX12_goesOn_178 rfl ?_
  exact vc
set_option maxRecDepth 20000 in
theorem wX12_goesOn_221 {p : Program} {l : Launch} {e : Env} {s : State} {m : MethodId} {args : Array Value} {below : List Frame} {meth : Method} {c : Code} {G : gG} {d : Nat} {Q : Option Value → gH → Prop} {h : gH} {lk sp : Nat} {cd : Option Nat}  (hR : h.2.2 = gRF lk sp cd) (hlk : lk = 30 ∨ lk = 67) (hsp : sp = 30 ∨ sp = 67)  (vc : (vp_in (((h.1 82 2) - 1)) 1600 ∧ ((¬ (h.1 83 (((h.1 82 2) - 1) : Int32).toNatClampNeg) = 43 → gg p l e s m args below meth c G (d + 1) MX12_goesOn Q 243 [some (.ref 82), some (.int 2)] [] h) ∧ ((h.1 83 (((h.1 82 2) - 1) : Int32).toNatClampNeg) = 43 → gg p l e s m args below meth c G (d + 1) MX12_goesOn Q 243 [some (.ref 82), some (.int 1)] [] h)))) : gg p l e s m args below meth c G (d + 1) MX12_goesOn Q 221 [some (.ref 82), none] [] h := by
  refine go_aload_n (x := 82) dX12_goesOn_221 rfl ?_
  refine go_getR (x := 83) dX12_goesOn_222 f12_7 sh82 (fun _ _ => rfl) (rf82_0 hR) ?_
  refine go_aload_n (x := 82) dX12_goesOn_225 rfl ?_
  refine go_getI' (v := (h.1 82 2)) dX12_goesOn_226 f12_284 sh82 (fun _ _ => rfl) rfl ?_
  refine go_iconst (v := 1) dX12_goesOn_229 rfl ?_
  refine go_isub dX12_goesOn_230 ?_
  refine go_iald' (v := (h.1 83 (((h.1 82 2) - 1) : Int32).toNatClampNeg)) dX12_goesOn_231 sh83 vc.1 rfl ?_
  have vc := vc.2
  refine go_bipush (v := 43) dX12_goesOn_232 rfl ?_
  refine go_icmp_ne 241 dX12_goesOn_234 rfl (fun q => ?_) (fun q => ?_)
  · replace vc := vc.1 q
    refine go_iconst (v := 2) dX12_goesOn_241 rfl ?_
    refine go_istore_n dX12_goesOn_242 (Nat.le_of_ble_eq_true rfl) ?_
    show gg p l e s m args below meth c G (d + 1) MX12_goesOn Q 243 [some (.ref 82), some (.int 2)] [] h
    exact vc
  · replace vc := vc.2 q
    refine go_iconst (v := 1) dX12_goesOn_237 rfl ?_
    refine go_goto 242 dX12_goesOn_238 rfl ?_
    refine go_istore_n dX12_goesOn_242 (Nat.le_of_ble_eq_true rfl) ?_
    show gg p l e s m args below meth c G (d + 1) MX12_goesOn Q 243 [some (.ref 82), some (.int 1)] [] h
    exact vc
set_option maxRecDepth 20000 in
theorem wX12_goesOn_243 {p : Program} {l : Launch} {e : Env} {s : State} {m : MethodId} {args : Array Value} {below : List Frame} {meth : Method} {c : Code} {G : gG} {d : Nat} {Q : Option Value → gH → Prop} {h : gH} {lk sp : Nat} {cd : Option Nat} {x1 : Int32} (hR : h.2.2 = gRF lk sp cd) (hlk : lk = 30 ∨ lk = 67) (hsp : sp = 30 ∨ sp = 67)  (vc : gC l G d MX12_isOn [.ref 82, .int 3] h (rI fun v1 h1 => h1.2.2 = (h).2.2 ∧ ((¬ v1 = 0 → gg p l e s m args below meth c G (d + 1) MX12_goesOn Q 275 [some (.ref 82), some (.int x1)] [] h1) ∧ (v1 = 0 → gC l G d MX12_isOn [.ref 82, .int 4] h1 (rI fun v2 h2 => h2.2.2 = (h1).2.2 ∧ ((¬ v2 = 0 → gg p l e s m args below meth c G (d + 1) MX12_goesOn Q 275 [some (.ref 82), some (.int x1)] [] h2) ∧ (v2 = 0 → gC l G d MX12_isOn [.ref 82, .int 1] h2 (rI fun v3 h3 => h3.2.2 = (h2).2.2 ∧ ((¬ v3 = 0 → gg p l e s m args below meth c G (d + 1) MX12_goesOn Q 275 [some (.ref 82), some (.int x1)] [] h3) ∧ (v3 = 0 → gC l G d MX12_isOn [.ref 82, .int 2] h3 (rI fun v4 h4 => h4.2.2 = (h3).2.2 ∧ ((v4 = 0 → (vp_in ((h4.1 82 62)) 1700 ∧ Q (some (.int 1)) (sI (sI h4 130 ((h4.1 82 62) : Int32).toNatClampNeg x1) 82 62 ((h4.1 82 62) + 1)))) ∧ (¬ v4 = 0 → gg p l e s m args below meth c G (d + 1) MX12_goesOn Q 275 [some (.ref 82), some (.int x1)] [] h4))))))))))))) : gg p l e s m args below meth c G (d + 1) MX12_goesOn Q 243 [some (.ref 82), some (.int x1)] [] h := by
  refine go_aload_n (x := 82) dX12_goesOn_243 rfl ?_
  refine go_iconst (v := 3) dX12_goesOn_244 rfl ?_
  refine gvI1 MX12_isOn dX12_goesOn_245 lX12_449 kX12_isOn vX12_isOn sh82 (by decide) rfl (Nat.le_of_ble_eq_true rfl) vc ?_
  intro v1 h1 vc
  obtain ⟨hR1, vc⟩ := vc
  replace hR := hR1.trans hR
  refine go_if_ne 275 dX12_goesOn_248 rfl (fun q => ?_) (fun q => ?_)
  · replace vc := vc.1 q
    exact vc
  · replace vc := vc.2 q
    refine go_aload_n (x := 82) dX12_goesOn_251 rfl ?_
    refine go_iconst (v := 4) dX12_goesOn_252 rfl ?_
    refine gvI1 MX12_isOn dX12_goesOn_253 lX12_449 kX12_isOn vX12_isOn sh82 (by decide) rfl (Nat.le_of_ble_eq_true rfl) vc ?_
    intro v2 h2 vc
    obtain ⟨hR2, vc⟩ := vc
    replace hR := hR2.trans hR
    refine go_if_ne 275 dX12_goesOn_256 rfl (fun q => ?_) (fun q => ?_)
    · replace vc := vc.1 q
      exact vc
    · replace vc := vc.2 q
      refine go_aload_n (x := 82) dX12_goesOn_259 rfl ?_
      refine go_iconst (v := 1) dX12_goesOn_260 rfl ?_
      refine gvI1 MX12_isOn dX12_goesOn_261 lX12_449 kX12_isOn vX12_isOn sh82 (by decide) rfl (Nat.le_of_ble_eq_true rfl) vc ?_
      intro v3 h3 vc
      obtain ⟨hR3, vc⟩ := vc
      replace hR := hR3.trans hR
      refine go_if_ne 275 dX12_goesOn_264 rfl (fun q => ?_) (fun q => ?_)
      · replace vc := vc.1 q
        exact vc
      · replace vc := vc.2 q
        refine go_aload_n (x := 82) dX12_goesOn_267 rfl ?_
        refine go_iconst (v := 2) dX12_goesOn_268 rfl ?_
        refine gvI1 MX12_isOn dX12_goesOn_269 lX12_449 kX12_isOn vX12_isOn sh82 (by decide) rfl (Nat.le_of_ble_eq_true rfl) vc ?_
        intro v4 h4 vc
        obtain ⟨hR4, vc⟩ := vc
        replace hR := hR4.trans hR
        refine go_if_eq 282 dX12_goesOn_272 rfl (fun q => ?_) (fun q => ?_)
        · replace vc := vc.1 q
          refine go_aload_n (x := 82) dX12_goesOn_282 rfl ?_
          refine go_getR (x := 130) dX12_goesOn_283 f12_157 sh82 (fun _ _ => rfl) (rf82_61 hR) ?_
          refine go_aload_n (x := 82) dX12_goesOn_286 rfl ?_
          refine go_getI' (v := (h4.1 82 62)) dX12_goesOn_287 f12_377 sh82 (fun _ _ => rfl) rfl ?_
          refine go_iload_n (x := x1) dX12_goesOn_290 rfl ?_
          refine go_iast dX12_goesOn_291 sh130 vc.1 ?_
          have vc := vc.2
          show gg p l e s m args below meth c G (d + 1) MX12_goesOn Q 292 [some (.ref 82), some (.int x1)] [] (sI h4 130 ((h4.1 82 62) : Int32).toNatClampNeg x1)
          refine go_aload_n (x := 82) dX12_goesOn_292 rfl ?_
          refine go_dup dX12_goesOn_293 rfl ?_
          refine go_getI' (v := (h4.1 82 62)) dX12_goesOn_294 f12_377 sh82 (fun _ _ => rfl) rfl ?_
          refine go_iconst (v := 1) dX12_goesOn_297 rfl ?_
          refine go_iadd dX12_goesOn_298 ?_
          refine go_putI dX12_goesOn_299 f12_377 sh82 rfl rfl ?_
          refine go_iconst (v := 1) dX12_goesOn_302 rfl ?_
          exact go_zret dX12_goesOn_303 rfl (by decide) vc rfl (Nat.le_refl _) (Nat.le_refl _)
        · replace vc := vc.2 q
          exact vc
set_option maxRecDepth 20000 in
theorem wX12_goesOn_275 {p : Program} {l : Launch} {e : Env} {s : State} {m : MethodId} {args : Array Value} {below : List Frame} {meth : Method} {c : Code} {G : gG} {d : Nat} {Q : Option Value → gH → Prop} {h : gH} {lk sp : Nat} {cd : Option Nat} {x1 : Int32} (hR : h.2.2 = gRF lk sp cd) (hlk : lk = 30 ∨ lk = 67) (hsp : sp = 30 ∨ sp = 67)  (vc : gC l G d MX12_drops [.ref 82] h (rV fun h1 => h1.2.2 = (h).2.2 ∧ gg p l e s m args below meth c G (d + 1) MX12_goesOn Q 243 [some (.ref 82), some (.int x1)] [] h1)) : gg p l e s m args below meth c G (d + 1) MX12_goesOn Q 275 [some (.ref 82), some (.int x1)] [] h := by
  refine go_aload_n (x := 82) dX12_goesOn_275 rfl ?_
  refine gvV0 MX12_drops dX12_goesOn_276 lX12_437 kX12_drops vX12_drops sh82 (by decide) rfl (Nat.le_of_ble_eq_true rfl) vc ?_
  intro h1 vc
  obtain ⟨hR1, vc⟩ := vc
  replace hR := hR1.trans hR
  refine go_goto 243 dX12_goesOn_279 rfl ?_
  exact vc
set_option maxRecDepth 20000 in
theorem wX12_goesOn_322 {p : Program} {l : Launch} {e : Env} {s : State} {m : MethodId} {args : Array Value} {below : List Frame} {meth : Method} {c : Code} {G : gG} {d : Nat} {Q : Option Value → gH → Prop} {h : gH} {lk sp : Nat} {cd : Option Nat}  (hR : h.2.2 = gRF lk sp cd) (hlk : lk = 30 ∨ lk = 67) (hsp : sp = 30 ∨ sp = 67)  (vc : gC l G d MX12_asksSign [.ref 82, .int 44] h (rV fun h1 => h1.2.2 = (h).2.2 ∧ (((h1.1 82 5) = 0 → gC l G d MX12_dropsToMark [.ref 82] h1 (rV fun h2 => h2.2.2 = (h1).2.2 ∧ (vp_in (((h2.1 82 62) - 1)) 1700 ∧ (vp_in (((h2.1 82 62) - 1)) 1700 ∧ Q (some (.int 1)) (sI h2 130 (((h2.1 82 62) - 1) : Int32).toNatClampNeg ((h2.1 130 (((h2.1 82 62) - 1) : Int32).toNatClampNeg) + 2)))))) ∧ (¬ (h1.1 82 5) = 0 → Q (some (.int 0)) h1)))) : gg p l e s m args below meth c G (d + 1) MX12_goesOn Q 322 [some (.ref 82), none] [] h := by
  refine go_aload_n (x := 82) dX12_goesOn_322 rfl ?_
  refine go_bipush (v := 44) dX12_goesOn_323 rfl ?_
  refine gvV1 MX12_asksSign dX12_goesOn_325 lX12_352 kX12_asksSign vX12_asksSign sh82 (by decide) rfl (Nat.le_of_ble_eq_true rfl) vc ?_
  intro h1 vc
  obtain ⟨hR1, vc⟩ := vc
  replace hR := hR1.trans hR
  refine go_aload_n (x := 82) dX12_goesOn_328 rfl ?_
  refine go_getI' (v := (h1.1 82 5)) dX12_goesOn_329 f12_278 sh82 (fun _ _ => rfl) rfl ?_
  refine go_if_eq 337 dX12_goesOn_332 rfl (fun q => ?_) (fun q => ?_)
  · replace vc := vc.1 q
    refine go_aload_n (x := 82) dX12_goesOn_337 rfl ?_
    refine gvV0 MX12_dropsToMark dX12_goesOn_338 lX12_446 kX12_dropsToMark vX12_dropsToMark sh82 (by decide) rfl (Nat.le_of_ble_eq_true rfl) vc ?_
    intro h2 vc
    obtain ⟨hR2, vc⟩ := vc
    replace hR := hR2.trans hR
    refine go_aload_n (x := 82) dX12_goesOn_341 rfl ?_
    refine go_getR (x := 130) dX12_goesOn_342 f12_157 sh82 (fun _ _ => rfl) (rf82_61 hR) ?_
    refine go_aload_n (x := 82) dX12_goesOn_345 rfl ?_
    refine go_getI' (v := (h2.1 82 62)) dX12_goesOn_346 f12_377 sh82 (fun _ _ => rfl) rfl ?_
    refine go_iconst (v := 1) dX12_goesOn_349 rfl ?_
    refine go_isub dX12_goesOn_350 ?_
    refine go_dup2 dX12_goesOn_351 rfl rfl ?_
    refine go_iald' (v := (h2.1 130 (((h2.1 82 62) - 1) : Int32).toNatClampNeg)) dX12_goesOn_352 sh130 vc.1 rfl ?_
    have vc := vc.2
    refine go_iconst (v := 2) dX12_goesOn_353 rfl ?_
    refine go_iadd dX12_goesOn_354 ?_
    refine go_iast dX12_goesOn_355 sh130 vc.1 ?_
    have vc := vc.2
    show gg p l e s m args below meth c G (d + 1) MX12_goesOn Q 356 [some (.ref 82), none] [] (sI h2 130 (((h2.1 82 62) - 1) : Int32).toNatClampNeg ((h2.1 130 (((h2.1 82 62) - 1) : Int32).toNatClampNeg) + 2))
    refine go_iconst (v := 1) dX12_goesOn_356 rfl ?_
    exact go_zret dX12_goesOn_357 rfl (by decide) vc rfl (Nat.le_refl _) (Nat.le_refl _)
  · replace vc := vc.2 q
    refine go_iconst (v := 0) dX12_goesOn_335 rfl ?_
    exact go_zret dX12_goesOn_336 rfl (by decide) vc rfl (Nat.le_refl _) (Nat.le_refl _)
set_option maxRecDepth 20000 in
theorem wX12_goesOn_382 {p : Program} {l : Launch} {e : Env} {s : State} {m : MethodId} {args : Array Value} {below : List Frame} {meth : Method} {c : Code} {G : gG} {d : Nat} {Q : Option Value → gH → Prop} {h : gH} {lk sp : Nat} {cd : Option Nat}  (hR : h.2.2 = gRF lk sp cd) (hlk : lk = 30 ∨ lk = 67) (hsp : sp = 30 ∨ sp = 67)  (vc : Q (some (.int 0)) h) : gg p l e s m args below meth c G (d + 1) MX12_goesOn Q 382 [some (.ref 82), none] [] h := by
  refine go_iconst (v := 0) dX12_goesOn_382 rfl ?_
  exact go_zret dX12_goesOn_383 rfl (by decide) vc rfl (Nat.le_refl _) (Nat.le_refl _)
