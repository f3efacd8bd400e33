set_option maxRecDepth 20000 in
theorem wX3_readFact_0 {p : Program} {l : Launch} {e : Env} {s : State} {m : MethodId} {args : Array Value} {below : List Frame} {meth : Method} {c : Code} {G : gG} {d : Nat} {Q : Option Value → gH → Prop} {h : gH} {lk sp : Nat} {cd : Option Nat} {a1 : Int32} (hR : h.2.2 = gRF lk sp cd) (hlk : lk = 30 ∨ lk = 67) (hsp : sp = 30 ∨ sp = 67)  (vc : gC l G d MX5_isWord [.ref 1, .int 30] h (rI fun v1 h1 => h1.2.2 = (h).2.2 ∧ ((v1 = 0 → ((¬ (h1.1 1 3) = 91 → gC l G d MX5_isWord [.ref 1, .int 31] h1 (rI fun v2 h2 => h2.2.2 = (h1).2.2 ∧ ((v2 = 0 → gC l G d MX3_readComparison [.ref 4, .int a1] h2 (rI fun v3 h3 => h3.2.2 = (h2).2.2 ∧ ((v3 = 0 ∨ v3 = 1) ∧ Q (some (.int v3)) h3))) ∧ (¬ v2 = 0 → gC l G d MX3_putNumber [.ref 4, .int 1] h2 (rV fun h4 => h4.2.2 = (h2).2.2 ∧ gC l G d MX5_move [.ref 1] h4 (rV fun h5 => h5.2.2 = (h4).2.2 ∧ Q (some (.int 1)) h5)))))) ∧ ((h1.1 1 3) = 91 → gC l G d MX3_openOne [.ref 4, .int a1] h1 (rI fun v6 h6 => h6.2.2 = (h1).2.2 ∧ ((v6 = 0 → Q (some (.int 0)) h6) ∧ (¬ v6 = 0 → gC l G d MX3_readTest [.ref 4, .int (a1 + 1)] h6 (rI fun v7 h7 => h7.2.2 = (h6).2.2 ∧ ((v7 = 0 → Q (some (.int 0)) h7) ∧ (¬ v7 = 0 → gC l G d MX5_takeSign [.ref 1, .int 93] h7 (rI fun v8 h8 => h8.2.2 = (h7).2.2 ∧ ((v8 = 0 → Q (some (.int 0)) h8) ∧ (¬ v8 = 0 → Q (some (.int 1)) h8)))))))))))) ∧ (¬ v1 = 0 → gC l G d MX3_openOne [.ref 4, .int a1] h1 (rI fun v9 h9 => h9.2.2 = (h1).2.2 ∧ ((v9 = 0 → gC l G d MX3_put [.ref 4, .int 30] h9 (rV fun h10 => h10.2.2 = (h9).2.2 ∧ Q (some (.int 0)) h10)) ∧ (¬ v9 = 0 → gC l G d MX3_readFact [.ref 4, .int (a1 + 1)] h9 (rI fun v11 h11 => h11.2.2 = (h9).2.2 ∧ ((v11 = 0 → gC l G d MX3_put [.ref 4, .int 30] h11 (rV fun h12 => h12.2.2 = (h11).2.2 ∧ Q (some (.int 0)) h12)) ∧ (¬ v11 = 0 → gC l G d MX3_put [.ref 4, .int 30] h11 (rV fun h13 => h13.2.2 = (h11).2.2 ∧ Q (some (.int 1)) h13))))))))))) : gg p l e s m args below meth c G (d + 1) MX3_readFact Q 0 [some (.ref 4), some (.int a1), none] [] h := by
  refine go_aload_n (x := 4) dX3_readFact_0 rfl ?_
  refine go_getR (x := 1) dX3_readFact_1 f3_11 sh4 (fun _ _ => rfl) (rf4_0 hR) ?_
  refine go_bipush (v := 30) dX3_readFact_4 rfl ?_
  refine gvI1 MX5_isWord dX3_readFact_6 lX3_65 kX5_isWord vX5_isWord sh1 (by decide) rfl (Nat.le_of_ble_eq_true rfl) vc ?_
  intro v1 h1 vc
  obtain ⟨hR1, vc⟩ := vc
  replace hR := hR1.trans hR
  refine go_if_eq 44 dX3_readFact_9 rfl (fun q => ?_) (fun q => ?_)
  · replace vc := vc.1 q
    refine go_aload_n (x := 4) dX3_readFact_44 rfl ?_
    refine go_getR (x := 1) dX3_readFact_45 f3_11 sh4 (fun _ _ => rfl) (rf4_0 hR) ?_
    refine go_getI' (v := (h1.1 1 3)) dX3_readFact_48 f3_44 sh1 (fun _ _ => rfl) rfl ?_
    refine go_bipush (v := 91) dX3_readFact_51 rfl ?_
    refine go_icmp_ne 92 dX3_readFact_53 rfl (fun q => ?_) (fun q => ?_)
    · replace vc := vc.1 q
      refine go_aload_n (x := 4) dX3_readFact_92 rfl ?_
      refine go_getR (x := 1) dX3_readFact_93 f3_11 sh4 (fun _ _ => rfl) (rf4_0 hR) ?_
      refine go_bipush (v := 31) dX3_readFact_96 rfl ?_
      refine gvI1 MX5_isWord dX3_readFact_98 lX3_65 kX5_isWord vX5_isWord sh1 (by decide) rfl (Nat.le_of_ble_eq_true rfl) vc ?_
      intro v2 h2 vc
      obtain ⟨hR2, vc⟩ := vc
      replace hR := hR2.trans hR
      refine go_if_eq 118 dX3_readFact_101 rfl (fun q => ?_) (fun q => ?_)
      · replace vc := vc.1 q
        refine go_aload_n (x := 4) dX3_readFact_118 rfl ?_
        refine go_iload_n (x := a1) dX3_readFact_119 rfl ?_
        refine gvI1 MX3_readComparison dX3_readFact_120 lX3_80 kX3_readComparison vX3_readComparison sh4 (by decide) rfl (Nat.le_of_ble_eq_true rfl) vc ?_
        intro v3 h3 vc
        obtain ⟨hR3, vc⟩ := vc
        replace hR := hR3.trans hR
        exact go_zret dX3_readFact_123 rfl vc.1 vc.2 rfl (Nat.le_refl _) (Nat.le_refl _)
      · replace vc := vc.2 q
        refine go_aload_n (x := 4) dX3_readFact_104 rfl ?_
        refine go_iconst (v := 1) dX3_readFact_105 rfl ?_
        refine gvV1 MX3_putNumber dX3_readFact_106 lX3_77 kX3_putNumber vX3_putNumber sh4 (by decide) rfl (Nat.le_of_ble_eq_true rfl) vc ?_
        intro h4 vc
        obtain ⟨hR4, vc⟩ := vc
        replace hR := hR4.trans hR
        refine go_aload_n (x := 4) dX3_readFact_109 rfl ?_
        refine go_getR (x := 1) dX3_readFact_110 f3_11 sh4 (fun _ _ => rfl) (rf4_0 hR) ?_
        refine gvV0 MX5_move dX3_readFact_113 lX3_23 kX5_move vX5_move sh1 (by decide) rfl (Nat.le_of_ble_eq_true rfl) vc ?_
        intro h5 vc
        obtain ⟨hR5, vc⟩ := vc
        replace hR := hR5.trans hR
        refine go_iconst (v := 1) dX3_readFact_116 rfl ?_
        exact go_zret dX3_readFact_117 rfl (by decide) vc rfl (Nat.le_refl _) (Nat.le_refl _)
    · replace vc := vc.2 q
      refine go_aload_n (x := 4) dX3_readFact_56 rfl ?_
      refine go_iload_n (x := a1) dX3_readFact_57 rfl ?_
      refine gvI1 MX3_openOne dX3_readFact_58 lX3_74 kX3_openOne vX3_openOne sh4 (by decide) rfl (Nat.le_of_ble_eq_true rfl) vc ?_
      intro v6 h6 vc
      obtain ⟨hR6, vc⟩ := vc
      replace hR := hR6.trans hR
      refine go_if_eq 90 dX3_readFact_61 rfl (fun q => ?_) (fun q => ?_)
      · replace vc := vc.1 q
        refine go_iconst (v := 0) dX3_readFact_90 rfl ?_
        exact go_zret dX3_readFact_91 rfl (by decide) vc rfl (Nat.le_refl _) (Nat.le_refl _)
      · replace vc := vc.2 q
        refine go_aload_n (x := 4) dX3_readFact_64 rfl ?_
        refine go_iload_n (x := a1) dX3_readFact_65 rfl ?_
        refine go_iconst (v := 1) dX3_readFact_66 rfl ?_
        refine go_iadd dX3_readFact_67 ?_
        refine gvI1 MX3_readTest dX3_readFact_68 lX3_56 kX3_readTest vX3_readTest sh4 (by decide) rfl (Nat.le_of_ble_eq_true rfl) vc ?_
        intro v7 h7 vc
        obtain ⟨hR7, vc⟩ := vc
        replace hR := hR7.trans hR
        refine go_if_eq 90 dX3_readFact_71 rfl (fun q => ?_) (fun q => ?_)
        · replace vc := vc.1 q
          refine go_iconst (v := 0) dX3_readFact_90 rfl ?_
          exact go_zret dX3_readFact_91 rfl (by decide) vc rfl (Nat.le_refl _) (Nat.le_refl _)
        · replace vc := vc.2 q
          refine go_aload_n (x := 4) dX3_readFact_74 rfl ?_
          refine go_getR (x := 1) dX3_readFact_75 f3_11 sh4 (fun _ _ => rfl) (rf4_0 hR) ?_
          refine go_bipush (v := 93) dX3_readFact_78 rfl ?_
          refine gvI1 MX5_takeSign dX3_readFact_80 lX3_59 kX5_takeSign vX5_takeSign sh1 (by decide) rfl (Nat.le_of_ble_eq_true rfl) vc ?_
          intro v8 h8 vc
          obtain ⟨hR8, vc⟩ := vc
          replace hR := hR8.trans hR
          refine go_if_eq 90 dX3_readFact_83 rfl (fun q => ?_) (fun q => ?_)
          · replace vc := vc.1 q
            refine go_iconst (v := 0) dX3_readFact_90 rfl ?_
            exact go_zret dX3_readFact_91 rfl (by decide) vc rfl (Nat.le_refl _) (Nat.le_refl _)
          · replace vc := vc.2 q
            refine go_iconst (v := 1) dX3_readFact_86 rfl ?_
            refine go_goto 91 dX3_readFact_87 rfl ?_
            exact go_zret dX3_readFact_91 rfl (by decide) vc rfl (Nat.le_refl _) (Nat.le_refl _)
  · replace vc := vc.2 q
    refine go_aload_n (x := 4) dX3_readFact_12 rfl ?_
    refine go_iload_n (x := a1) dX3_readFact_13 rfl ?_
    refine gvI1 MX3_openOne dX3_readFact_14 lX3_74 kX3_openOne vX3_openOne sh4 (by decide) rfl (Nat.le_of_ble_eq_true rfl) vc ?_
    intro v9 h9 vc
    obtain ⟨hR9, vc⟩ := vc
    replace hR := hR9.trans hR
    refine go_if_eq 34 dX3_readFact_17 rfl (fun q => ?_) (fun q => ?_)
    · replace vc := vc.1 q
      refine go_iconst (v := 0) dX3_readFact_34 rfl ?_
      refine go_istore_n dX3_readFact_35 (Nat.le_of_ble_eq_true rfl) ?_
      show gg p l e s m args below meth c G (d + 1) MX3_readFact Q 36 [some (.ref 4), some (.int a1), some (.int 0)] [] h9
      refine go_aload_n (x := 4) dX3_readFact_36 rfl ?_
      refine go_bipush (v := 30) dX3_readFact_37 rfl ?_
      refine gvV1 MX3_put dX3_readFact_39 lX3_68 kX3_put vX3_put sh4 (by decide) rfl (Nat.le_of_ble_eq_true rfl) vc ?_
      intro h10 vc
      obtain ⟨hR10, vc⟩ := vc
      replace hR := hR10.trans hR
      refine go_iload_n (x := 0) dX3_readFact_42 rfl ?_
      exact go_zret dX3_readFact_43 rfl (by decide) vc rfl (Nat.le_refl _) (Nat.le_refl _)
    · replace vc := vc.2 q
      refine go_aload_n (x := 4) dX3_readFact_20 rfl ?_
      refine go_iload_n (x := a1) dX3_readFact_21 rfl ?_
      refine go_iconst (v := 1) dX3_readFact_22 rfl ?_
      refine go_iadd dX3_readFact_23 ?_
      refine gvI1 MX3_readFact dX3_readFact_24 lX3_71 kX3_readFact vX3_readFact sh4 (by decide) rfl (Nat.le_of_ble_eq_true rfl) vc ?_
      intro v11 h11 vc
      obtain ⟨hR11, vc⟩ := vc
      replace hR := hR11.trans hR
      refine go_if_eq 34 dX3_readFact_27 rfl (fun q => ?_) (fun q => ?_)
      · replace vc := vc.1 q
        refine go_iconst (v := 0) dX3_readFact_34 rfl ?_
        refine go_istore_n dX3_readFact_35 (Nat.le_of_ble_eq_true rfl) ?_
        show gg p l e s m args below meth c G (d + 1) MX3_readFact Q 36 [some (.ref 4), some (.int a1), some (.int 0)] [] h11
        refine go_aload_n (x := 4) dX3_readFact_36 rfl ?_
        refine go_bipush (v := 30) dX3_readFact_37 rfl ?_
        refine gvV1 MX3_put dX3_readFact_39 lX3_68 kX3_put vX3_put sh4 (by decide) rfl (Nat.le_of_ble_eq_true rfl) vc ?_
        intro h12 vc
        obtain ⟨hR12, vc⟩ := vc
        replace hR := hR12.trans hR
        refine go_iload_n (x := 0) dX3_readFact_42 rfl ?_
        exact go_zret dX3_readFact_43 rfl (by decide) vc rfl (Nat.le_refl _) (Nat.le_refl _)
      · replace vc := vc.2 q
        refine go_iconst (v := 1) dX3_readFact_30 rfl ?_
        refine go_goto 35 dX3_readFact_31 rfl ?_
        refine go_istore_n dX3_readFact_35 (Nat.le_of_ble_eq_true rfl) ?_
        show gg p l e s m args below meth c G (d + 1) MX3_readFact Q 36 [some (.ref 4), some (.int a1), some (.int 1)] [] h11
        refine go_aload_n (x := 4) dX3_readFact_36 rfl ?_
        refine go_bipush (v := 30) dX3_readFact_37 rfl ?_
        refine gvV1 MX3_put dX3_readFact_39 lX3_68 kX3_put vX3_put sh4 (by decide) rfl (Nat.le_of_ble_eq_true rfl) vc ?_
        intro h13 vc
        obtain ⟨hR13, vc⟩ := vc
        replace hR := hR13.trans hR
        refine go_iload_n (x := 1) dX3_readFact_42 rfl ?_
        exact go_zret dX3_readFact_43 rfl (by decide) vc rfl (Nat.le_refl _) (Nat.le_refl _)
set_option maxRecDepth 20000 in
theorem wX3_readComparison_0 {p : Program} {l : Launch} {e : Env} {s : State} {m : MethodId} {args : Array Value} {below : List Frame} {meth : Method} {c : Code} {G : gG} {d : Nat} {Q : Option Value → gH → Prop} {h : gH} {lk sp : Nat} {cd : Option Nat} {a1 : Int32} (hR : h.2.2 = gRF lk sp cd) (hlk : lk = 30 ∨ lk = 67) (hsp : sp = 30 ∨ sp = 67)  (vc : gC l G d MX3_readSum [.ref 4, .int a1] h (rI fun v1 h1 => h1.2.2 = (h).2.2 ∧ ((¬ v1 = 0 → (((h1.1 1 3) = 60 → gC l G d MX5_move [.ref 1] h1 (rV fun h2 => h2.2.2 = (h1).2.2 ∧ gC l G d MX3_readSum [.ref 4, .int a1] h2 (rI fun v3 h3 => h3.2.2 = (h2).2.2 ∧ gC l G d MX3_put [.ref 4, .int (h1.1 1 3)] h3 (rV fun h4 => h4.2.2 = (h3).2.2 ∧ ((v3 = 0 ∨ v3 = 1) ∧ Q (some (.int v3)) h4))))) ∧ (¬ (h1.1 1 3) = 60 → (((h1.1 1 3) = 62 → gC l G d MX5_move [.ref 1] h1 (rV fun h5 => h5.2.2 = (h1).2.2 ∧ gC l G d MX3_readSum [.ref 4, .int a1] h5 (rI fun v6 h6 => h6.2.2 = (h5).2.2 ∧ gC l G d MX3_put [.ref 4, .int (h1.1 1 3)] h6 (rV fun h7 => h7.2.2 = (h6).2.2 ∧ ((v6 = 0 ∨ v6 = 1) ∧ Q (some (.int v6)) h7))))) ∧ (¬ (h1.1 1 3) = 62 → (((h1.1 1 3) = 61 → gC l G d MX5_move [.ref 1] h1 (rV fun h8 => h8.2.2 = (h1).2.2 ∧ gC l G d MX3_readSum [.ref 4, .int a1] h8 (rI fun v9 h9 => h9.2.2 = (h8).2.2 ∧ gC l G d MX3_put [.ref 4, .int (h1.1 1 3)] h9 (rV fun h10 => h10.2.2 = (h9).2.2 ∧ ((v9 = 0 ∨ v9 = 1) ∧ Q (some (.int v9)) h10))))) ∧ (¬ (h1.1 1 3) = 61 → gC l G d MX5_failHere [.ref 1, .int 1] h1 (rI fun v11 h11 => h11.2.2 = (h1).2.2 ∧ ((v11 = 0 ∨ v11 = 1) ∧ Q (some (.int v11)) h11))))))))) ∧ (v1 = 0 → Q (some (.int 0)) h1)))) : gg p l e s m args below meth c G (d + 1) MX3_readComparison Q 0 [some (.ref 4), some (.int a1), none, none] [] h := by
  refine go_aload_n (x := 4) dX3_readComparison_0 rfl ?_
  refine go_iload_n (x := a1) dX3_readComparison_1 rfl ?_
  refine gvI1 MX3_readSum dX3_readComparison_2 lX3_34 kX3_readSum vX3_readSum sh4 (by decide) rfl (Nat.le_of_ble_eq_true rfl) vc ?_
  intro v1 h1 vc
  obtain ⟨hR1, vc⟩ := vc
  replace hR := hR1.trans hR
  refine go_if_ne 10 dX3_readComparison_5 rfl (fun q => ?_) (fun q => ?_)
  · replace vc := vc.1 q
    refine go_aload_n (x := 4) dX3_readComparison_10 rfl ?_
    refine go_getR (x := 1) dX3_readComparison_11 f3_11 sh4 (fun _ _ => rfl) (rf4_0 hR) ?_
    refine go_getI' (v := (h1.1 1 3)) dX3_readComparison_14 f3_44 sh1 (fun _ _ => rfl) rfl ?_
    refine go_istore_n dX3_readComparison_17 (Nat.le_of_ble_eq_true rfl) ?_
    show gg p l e s m args below meth c G (d + 1) MX3_readComparison Q 18 [some (.ref 4), some (.int a1), some (.int (h1.1 1 3)), none] [] h1
    refine go_iload_n (x := (h1.1 1 3)) dX3_readComparison_18 rfl ?_
    refine go_bipush (v := 60) dX3_readComparison_19 rfl ?_
    refine go_icmp_eq 45 dX3_readComparison_21 rfl (fun q => ?_) (fun q => ?_)
    · replace vc := vc.1 q
      refine go_aload_n (x := 4) dX3_readComparison_45 rfl ?_
      refine go_getR (x := 1) dX3_readComparison_46 f3_11 sh4 (fun _ _ => rfl) (rf4_0 hR) ?_
      refine gvV0 MX5_move dX3_readComparison_49 lX3_23 kX5_move vX5_move sh1 (by decide) rfl (Nat.le_of_ble_eq_true rfl) vc ?_
      intro h2 vc
      obtain ⟨hR2, vc⟩ := vc
      replace hR := hR2.trans hR
      refine go_aload_n (x := 4) dX3_readComparison_52 rfl ?_
      refine go_iload_n (x := a1) dX3_readComparison_53 rfl ?_
      refine gvI1 MX3_readSum dX3_readComparison_54 lX3_34 kX3_readSum vX3_readSum sh4 (by decide) rfl (Nat.le_of_ble_eq_true rfl) vc ?_
      intro v3 h3 vc
      obtain ⟨hR3, vc⟩ := vc
      replace hR := hR3.trans hR
      refine go_istore_n dX3_readComparison_57 (Nat.le_of_ble_eq_true rfl) ?_
      show gg p l e s m args below meth c G (d + 1) MX3_readComparison Q 58 [some (.ref 4), some (.int a1), some (.int (h1.1 1 3)), some (.int v3)] [] h3
      refine go_aload_n (x := 4) dX3_readComparison_58 rfl ?_
      refine go_iload_n (x := (h1.1 1 3)) dX3_readComparison_59 rfl ?_
      refine gvV1 MX3_put dX3_readComparison_60 lX3_68 kX3_put vX3_put sh4 (by decide) rfl (Nat.le_of_ble_eq_true rfl) vc ?_
      intro h4 vc
      obtain ⟨hR4, vc⟩ := vc
      replace hR := hR4.trans hR
      refine go_iload_n (x := v3) dX3_readComparison_63 rfl ?_
      exact go_zret dX3_readComparison_64 rfl vc.1 vc.2 rfl (Nat.le_refl _) (Nat.le_refl _)
    · replace vc := vc.2 q
      refine go_iload_n (x := (h1.1 1 3)) dX3_readComparison_24 rfl ?_
      refine go_bipush (v := 62) dX3_readComparison_25 rfl ?_
      refine go_icmp_eq 45 dX3_readComparison_27 rfl (fun q => ?_) (fun q => ?_)
      · replace vc := vc.1 q
        refine go_aload_n (x := 4) dX3_readComparison_45 rfl ?_
        refine go_getR (x := 1) dX3_readComparison_46 f3_11 sh4 (fun _ _ => rfl) (rf4_0 hR) ?_
        refine gvV0 MX5_move dX3_readComparison_49 lX3_23 kX5_move vX5_move sh1 (by decide) rfl (Nat.le_of_ble_eq_true rfl) vc ?_
        intro h5 vc
        obtain ⟨hR5, vc⟩ := vc
        replace hR := hR5.trans hR
        refine go_aload_n (x := 4) dX3_readComparison_52 rfl ?_
        refine go_iload_n (x := a1) dX3_readComparison_53 rfl ?_
        refine gvI1 MX3_readSum dX3_readComparison_54 lX3_34 kX3_readSum vX3_readSum sh4 (by decide) rfl (Nat.le_of_ble_eq_true rfl) vc ?_
        intro v6 h6 vc
        obtain ⟨hR6, vc⟩ := vc
        replace hR := hR6.trans hR
        refine go_istore_n dX3_readComparison_57 (Nat.le_of_ble_eq_true rfl) ?_
        show gg p l e s m args below meth c G (d + 1) MX3_readComparison Q 58 [some (.ref 4), some (.int a1), some (.int (h1.1 1 3)), some (.int v6)] [] h6
        refine go_aload_n (x := 4) dX3_readComparison_58 rfl ?_
        refine go_iload_n (x := (h1.1 1 3)) dX3_readComparison_59 rfl ?_
        refine gvV1 MX3_put dX3_readComparison_60 lX3_68 kX3_put vX3_put sh4 (by decide) rfl (Nat.le_of_ble_eq_true rfl) vc ?_
        intro h7 vc
        obtain ⟨hR7, vc⟩ := vc
        replace hR := hR7.trans hR
        refine go_iload_n (x := v6) dX3_readComparison_63 rfl ?_
        exact go_zret dX3_readComparison_64 rfl vc.1 vc.2 rfl (Nat.le_refl _) (Nat.le_refl _)
      · replace vc := vc.2 q
        refine go_iload_n (x := (h1.1 1 3)) dX3_readComparison_30 rfl ?_
        refine go_bipush (v := 61) dX3_readComparison_31 rfl ?_
        refine go_icmp_eq 45 dX3_readComparison_33 rfl (fun q => ?_) (fun q => ?_)
        · replace vc := vc.1 q
          refine go_aload_n (x := 4) dX3_readComparison_45 rfl ?_
          refine go_getR (x := 1) dX3_readComparison_46 f3_11 sh4 (fun _ _ => rfl) (rf4_0 hR) ?_
          refine gvV0 MX5_move dX3_readComparison_49 lX3_23 kX5_move vX5_move sh1 (by decide) rfl (Nat.le_of_ble_eq_true rfl) vc ?_
          intro h8 vc
          obtain ⟨hR8, vc⟩ := vc
          replace hR := hR8.trans hR
          refine go_aload_n (x := 4) dX3_readComparison_52 rfl ?_
          refine go_iload_n (x := a1) dX3_readComparison_53 rfl ?_
          refine gvI1 MX3_readSum dX3_readComparison_54 lX3_34 kX3_readSum vX3_readSum sh4 (by decide) rfl (Nat.le_of_ble_eq_true rfl) vc ?_
          intro v9 h9 vc
          obtain ⟨hR9, vc⟩ := vc
          replace hR := hR9.trans hR
          refine go_istore_n dX3_readComparison_57 (Nat.le_of_ble_eq_true rfl) ?_
          show gg p l e s m args below meth c G (d + 1) MX3_readComparison Q 58 [some (.ref 4), some (.int a1), some (.int (h1.1 1 3)), some (.int v9)] [] h9
          refine go_aload_n (x := 4) dX3_readComparison_58 rfl ?_
          refine go_iload_n (x := (h1.1 1 3)) dX3_readComparison_59 rfl ?_
          refine gvV1 MX3_put dX3_readComparison_60 lX3_68 kX3_put vX3_put sh4 (by decide) rfl (Nat.le_of_ble_eq_true rfl) vc ?_
          intro h10 vc
          obtain ⟨hR10, vc⟩ := vc
          replace hR := hR10.trans hR
          refine go_iload_n (x := v9) dX3_readComparison_63 rfl ?_
          exact go_zret dX3_readComparison_64 rfl vc.1 vc.2 rfl (Nat.le_refl _) (Nat.le_refl _)
        · replace vc := vc.2 q
          refine go_aload_n (x := 4) dX3_readComparison_36 rfl ?_
          refine go_getR (x := 1) dX3_readComparison_37 f3_11 sh4 (fun _ _ => rfl) (rf4_0 hR) ?_
          refine go_iconst (v := 1) dX3_readComparison_40 rfl ?_
          refine gvI1 MX5_failHere dX3_readComparison_41 lX3_51 kX5_failHere vX5_failHere sh1 (by decide) rfl (Nat.le_of_ble_eq_true rfl) vc ?_
          intro v11 h11 vc
          obtain ⟨hR11, vc⟩ := vc
          replace hR := hR11.trans hR
          exact go_zret dX3_readComparison_44 rfl vc.1 vc.2 rfl (Nat.le_refl _) (Nat.le_refl _)
  · replace vc := vc.2 q
    refine go_iconst (v := 0) dX3_readComparison_8 rfl ?_
    exact go_zret dX3_readComparison_9 rfl (by decide) vc rfl (Nat.le_refl _) (Nat.le_refl _)
set_option maxRecDepth 20000 in
theorem wX3_readSum_0 {p : Program} {l : Launch} {e : Env} {s : State} {m : MethodId} {args : Array Value} {below : List Frame} {meth : Method} {c : Code} {G : gG} {d : Nat} {Q : Option Value → gH → Prop} {h : gH} {lk sp : Nat} {cd : Option Nat} {a1 : Int32} (hR : h.2.2 = gRF lk sp cd) (hlk : lk = 30 ∨ lk = 67) (hsp : sp = 30 ∨ sp = 67)  (vc : gC l G d MX3_readProduct [.ref 4, .int a1] h (rI fun v1 h1 => h1.2.2 = (h).2.2 ∧ gg p l e s m args below meth c G (d + 1) MX3_readSum Q 8 [some (.ref 4), some (.int a1), some (.int v1), some (.int 0), none] [] h1)) : gg p l e s m args below meth c G (d + 1) MX3_readSum Q 0 [some (.ref 4), some (.int a1), none, none, none] [] h := by
  refine go_aload_n (x := 4) dX3_readSum_0 rfl ?_
  refine go_iload_n (x := a1) dX3_readSum_1 rfl ?_
  refine gvI1 MX3_readProduct dX3_readSum_2 lX3_83 kX3_readProduct vX3_readProduct sh4 (by decide) rfl (Nat.le_of_ble_eq_true rfl) vc ?_
  intro v1 h1 vc
  obtain ⟨hR1, vc⟩ := vc
  replace hR := hR1.trans hR
  refine go_istore_n dX3_readSum_5 (Nat.le_of_ble_eq_true rfl) ?_
  show gg p l e s m args below meth c G (d + 1) MX3_readSum Q 6 [some (.ref 4), some (.int a1), some (.int v1), none, none] [] h1
  refine go_iconst (v := 0) dX3_readSum_6 rfl ?_
  refine go_istore_n dX3_readSum_7 (Nat.le_of_ble_eq_true rfl) ?_
  show gg p l e s m args below meth c G (d + 1) MX3_readSum Q 8 [some (.ref 4), some (.int a1), some (.int v1), some (.int 0), none] [] h1
  exact vc
set_option maxRecDepth 20000 in
theorem wX3_readSum_8 {p : Program} {l : Launch} {e : Env} {s : State} {m : MethodId} {args : Array Value} {below : List Frame} {meth : Method} {c : Code} {G : gG} {d : Nat} {Q : Option Value → gH → Prop} {h : gH} {lk sp : Nat} {cd : Option Nat} {x1 : Int32} {x2 : Int32} {x3 : Int32} (hR : h.2.2 = gRF lk sp cd) (hlk : lk = 30 ∨ lk = 67) (hsp : sp = 30 ∨ sp = 67)  (vc : ((1600 ≤ x3 → ((x2 = 0 ∨ x2 = 1) ∧ Q (some (.int x2)) h)) ∧ (¬ 1600 ≤ x3 → ((x2 = 0 → ((x2 = 0 ∨ x2 = 1) ∧ Q (some (.int x2)) h)) ∧ (¬ x2 = 0 → (((h.1 1 3) = 43 → gC l G d MX5_move [.ref 1] h (rV fun h1 => h1.2.2 = (h).2.2 ∧ gC l G d MX3_readProduct [.ref 4, .int x1] h1 (rI fun v2 h2 => h2.2.2 = (h1).2.2 ∧ gC l G d MX3_put [.ref 4, .int (h.1 1 3)] h2 (rV fun h3 => h3.2.2 = (h2).2.2 ∧ gg p l e s m args below meth c G (d + 1) MX3_readSum Q 8 [some (.ref 4), some (.int x1), some (.int v2), some (.int (x3 + 1)), none] [] h3)))) ∧ (¬ (h.1 1 3) = 43 → ((¬ (h.1 1 3) = 45 → ((x2 = 0 ∨ x2 = 1) ∧ Q (some (.int x2)) h)) ∧ ((h.1 1 3) = 45 → gC l G d MX5_move [.ref 1] h (rV fun h4 => h4.2.2 = (h).2.2 ∧ gC l G d MX3_readProduct [.ref 4, .int x1] h4 (rI fun v5 h5 => h5.2.2 = (h4).2.2 ∧ gC l G d MX3_put [.ref 4, .int (h.1 1 3)] h5 (rV fun h6 => h6.2.2 = (h5).2.2 ∧ gg p l e s m args below meth c G (d + 1) MX3_readSum Q 8 [some (.ref 4), some (.int x1), some (.int v5), some (.int (x3 + 1)), none] [] h6)))))))))))) : gg p l e s m args below meth c G (d + 1) MX3_readSum Q 8 [some (.ref 4), some (.int x1), some (.int x2), some (.int x3), none] [] h := by
  refine go_iload_n (x := x3) dX3_readSum_8 rfl ?_
  refine go_sipush (v := 1600) dX3_readSum_9 rfl ?_
  refine go_icmp_ge 77 dX3_readSum_12 rfl (fun q => ?_) (fun q => ?_)
  · replace vc := vc.1 q
    refine go_iload_n (x := x2) dX3_readSum_77 rfl ?_
    exact go_zret dX3_readSum_78 rfl vc.1 vc.2 rfl (Nat.le_refl _) (Nat.le_refl _)
  · replace vc := vc.2 q
    refine go_iload_n (x := x2) dX3_readSum_15 rfl ?_
    refine go_if_eq 77 dX3_readSum_16 rfl (fun q => ?_) (fun q => ?_)
    · replace vc := vc.1 q
      refine go_iload_n (x := x2) dX3_readSum_77 rfl ?_
      exact go_zret dX3_readSum_78 rfl vc.1 vc.2 rfl (Nat.le_refl _) (Nat.le_refl _)
    · replace vc := vc.2 q
      refine go_aload_n (x := 4) dX3_readSum_19 rfl ?_
      refine go_getR (x := 1) dX3_readSum_20 f3_11 sh4 (fun _ _ => rfl) (rf4_0 hR) ?_
      refine go_getI' (v := (h.1 1 3)) dX3_readSum_23 f3_44 sh1 (fun _ _ => rfl) rfl ?_
      refine go_bipush (v := 43) dX3_readSum_26 rfl ?_
      refine go_icmp_eq 43 dX3_readSum_28 rfl (fun q => ?_) (fun q => ?_)
      · replace vc := vc.1 q
        refine go_aload_n (x := 4) dX3_readSum_43 rfl ?_
        refine go_getR (x := 1) dX3_readSum_44 f3_11 sh4 (fun _ _ => rfl) (rf4_0 hR) ?_
        refine go_getI' (v := (h.1 1 3)) dX3_readSum_47 f3_44 sh1 (fun _ _ => rfl) rfl ?_
        refine go_istore dX3_readSum_50 (Nat.le_of_ble_eq_true rfl) ?_
        show gg p l e s m args below meth c G (d + 1) MX3_readSum Q 52 [some (.ref 4), some (.int x1), some (.int x2), some (.int x3), some (.int (h.1 1 3))] [] h
        refine go_aload_n (x := 4) dX3_readSum_52 rfl ?_
        refine go_getR (x := 1) dX3_readSum_53 f3_11 sh4 (fun _ _ => rfl) (rf4_0 hR) ?_
        refine gvV0 MX5_move dX3_readSum_56 lX3_23 kX5_move vX5_move sh1 (by decide) rfl (Nat.le_of_ble_eq_true rfl) vc ?_
        intro h1 vc
        obtain ⟨hR1, vc⟩ := vc
        replace hR := hR1.trans hR
        refine go_aload_n (x := 4) dX3_readSum_59 rfl ?_
        refine go_iload_n (x := x1) dX3_readSum_60 rfl ?_
        refine gvI1 MX3_readProduct dX3_readSum_61 lX3_83 kX3_readProduct vX3_readProduct sh4 (by decide) rfl (Nat.le_of_ble_eq_true rfl) vc ?_
        intro v2 h2 vc
        obtain ⟨hR2, vc⟩ := vc
        replace hR := hR2.trans hR
        refine go_istore_n dX3_readSum_64 (Nat.le_of_ble_eq_true rfl) ?_
        show gg p l e s m args below meth c G (d + 1) MX3_readSum Q 65 [some (.ref 4), some (.int x1), some (.int v2), some (.int x3), some (.int (h.1 1 3))] [] h2
        refine go_aload_n (x := 4) dX3_readSum_65 rfl ?_
        refine go_iload (x := (h.1 1 3)) dX3_readSum_66 rfl ?_
        refine gvV1 MX3_put dX3_readSum_68 lX3_68 kX3_put vX3_put sh4 (by decide) rfl (Nat.le_of_ble_eq_true rfl) vc ?_
        intro h3 vc
        obtain ⟨hR3, vc⟩ := vc
        replace hR := hR3.trans hR
        refine go_iinc (x := x3) dX3_readSum_71 rfl ?_
        show gg p l e s m args below meth c G (d + 1) MX3_readSum Q 74 [some (.ref 4), some (.int x1), some (.int v2), some (.int (x3 + 1)), some (.int (h.1 1 3))] [] h3
        refine go_goto 8 dX3_readSum_74 rfl ?_
        refine go_weak (ls' := [some (.ref 4), some (.int x1), some (.int v2), some (.int (x3 + 1)), none]) ?_ vc
        exact (⟨rfl, ⟨rfl, ⟨rfl, ⟨rfl, trivial⟩⟩⟩⟩)
      · replace vc := vc.2 q
        refine go_aload_n (x := 4) dX3_readSum_31 rfl ?_
        refine go_getR (x := 1) dX3_readSum_32 f3_11 sh4 (fun _ _ => rfl) (rf4_0 hR) ?_
        refine go_getI' (v := (h.1 1 3)) dX3_readSum_35 f3_44 sh1 (fun _ _ => rfl) rfl ?_
        refine go_bipush (v := 45) dX3_readSum_38 rfl ?_
        refine go_icmp_ne 77 dX3_readSum_40 rfl (fun q => ?_) (fun q => ?_)
        · replace vc := vc.1 q
          refine go_iload_n (x := x2) dX3_readSum_77 rfl ?_
          exact go_zret dX3_readSum_78 rfl vc.1 vc.2 rfl (Nat.le_refl _) (Nat.le_refl _)
        · replace vc := vc.2 q
          refine go_aload_n (x := 4) dX3_readSum_43 rfl ?_
          refine go_getR (x := 1) dX3_readSum_44 f3_11 sh4 (fun _ _ => rfl) (rf4_0 hR) ?_
          refine go_getI' (v := (h.1 1 3)) dX3_readSum_47 f3_44 sh1 (fun _ _ => rfl) rfl ?_
          refine go_istore dX3_readSum_50 (Nat.le_of_ble_eq_true rfl) ?_
          show gg p l e s m args below meth c G (d + 1) MX3_readSum Q 52 [some (.ref 4), some (.int x1), some (.int x2), some (.int x3), some (.int (h.1 1 3))] [] h
          refine go_aload_n (x := 4) dX3_readSum_52 rfl ?_
          refine go_getR (x := 1) dX3_readSum_53 f3_11 sh4 (fun _ _ => rfl) (rf4_0 hR) ?_
          refine gvV0 MX5_move dX3_readSum_56 lX3_23 kX5_move vX5_move sh1 (by decide) rfl (Nat.le_of_ble_eq_true rfl) vc ?_
          intro h4 vc
          obtain ⟨hR4, vc⟩ := vc
          replace hR := hR4.trans hR
          refine go_aload_n (x := 4) dX3_readSum_59 rfl ?_
          refine go_iload_n (x := x1) dX3_readSum_60 rfl ?_
          refine gvI1 MX3_readProduct dX3_readSum_61 lX3_83 kX3_readProduct vX3_readProduct sh4 (by decide) rfl (Nat.le_of_ble_eq_true rfl) vc ?_
          intro v5 h5 vc
          obtain ⟨hR5, vc⟩ := vc
          replace hR := hR5.trans hR
          refine go_istore_n dX3_readSum_64 (Nat.le_of_ble_eq_true rfl) ?_
          show gg p l e s m args below meth c G (d + 1) MX3_readSum Q 65 [some (.ref 4), some (.int x1), some (.int v5), some (.int x3), some (.int (h.1 1 3))] [] h5
          refine go_aload_n (x := 4) dX3_readSum_65 rfl ?_
          refine go_iload (x := (h.1 1 3)) dX3_readSum_66 rfl ?_
          refine gvV1 MX3_put dX3_readSum_68 lX3_68 kX3_put vX3_put sh4 (by decide) rfl (Nat.le_of_ble_eq_true rfl) vc ?_
          intro h6 vc
          obtain ⟨hR6, vc⟩ := vc
          replace hR := hR6.trans hR
          refine go_iinc (x := x3) dX3_readSum_71 rfl ?_
          show gg p l e s m args below meth c G (d + 1) MX3_readSum Q 74 [some (.ref 4), some (.int x1), some (.int v5), some (.int (x3 + 1)), some (.int (h.1 1 3))] [] h6
          refine go_goto 8 dX3_readSum_74 rfl ?_
          refine go_weak (ls' := [some (.ref 4), some (.int x1), some (.int v5), some (.int (x3 + 1)), none]) ?_ vc
          exact (⟨rfl, ⟨rfl, ⟨rfl, ⟨rfl, trivial⟩⟩⟩⟩)
set_option maxRecDepth 20000 in
theorem wX3_readProduct_0 {p : Program} {l : Launch} {e : Env} {s : State} {m : MethodId} {args : Array Value} {below : List Frame} {meth : Method} {c : Code} {G : gG} {d : Nat} {Q : Option Value → gH → Prop} {h : gH} {lk sp : Nat} {cd : Option Nat} {a1 : Int32} (hR : h.2.2 = gRF lk sp cd) (hlk : lk = 30 ∨ lk = 67) (hsp : sp = 30 ∨ sp = 67)  (vc : gC l G d MX3_readPart [.ref 4, .int a1] h (rI fun v1 h1 => h1.2.2 = (h).2.2 ∧ gg p l e s m args below meth c G (d + 1) MX3_readProduct Q 8 [some (.ref 4), some (.int a1), some (.int v1), some (.int 0), none] [] h1)) : gg p l e s m args below meth c G (d + 1) MX3_readProduct Q 0 [some (.ref 4), some (.int a1), none, none, none] [] h := by
  refine go_aload_n (x := 4) dX3_readProduct_0 rfl ?_
  refine go_iload_n (x := a1) dX3_readProduct_1 rfl ?_
  refine gvI1 MX3_readPart dX3_readProduct_2 lX3_86 kX3_readPart vX3_readPart sh4 (by decide) rfl (Nat.le_of_ble_eq_true rfl) vc ?_
  intro v1 h1 vc
  obtain ⟨hR1, vc⟩ := vc
  replace hR := hR1.trans hR
  refine go_istore_n dX3_readProduct_5 (Nat.le_of_ble_eq_true rfl) ?_
  show gg p l e s m args below meth c G (d + 1) MX3_readProduct Q 6 [some (.ref 4), some (.int a1), some (.int v1), none, none] [] h1
  refine go_iconst (v := 0) dX3_readProduct_6 rfl ?_
  refine go_istore_n dX3_readProduct_7 (Nat.le_of_ble_eq_true rfl) ?_
  show gg p l e s m args below meth c G (d + 1) MX3_readProduct Q 8 [some (.ref 4), some (.int a1), some (.int v1), some (.int 0), none] [] h1
  exact vc
set_option maxRecDepth 20000 in
theorem wX3_readProduct_8 {p : Program} {l : Launch} {e : Env} {s : State} {m : MethodId} {args : Array Value} {below : List Frame} {meth : Method} {c : Code} {G : gG} {d : Nat} {Q : Option Value → gH → Prop} {h : gH} {lk sp : Nat} {cd : Option Nat} {x1 : Int32} {x2 : Int32} {x3 : Int32} (hR : h.2.2 = gRF lk sp cd) (hlk : lk = 30 ∨ lk = 67) (hsp : sp = 30 ∨ sp = 67)  (vc : ((1600 ≤ x3 → ((x2 = 0 ∨ x2 = 1) ∧ Q (some (.int x2)) h)) ∧ (¬ 1600 ≤ x3 → ((x2 = 0 → ((x2 = 0 ∨ x2 = 1) ∧ Q (some (.int x2)) h)) ∧ (¬ x2 = 0 → (((h.1 1 3) = 42 → gC l G d MX5_move [.ref 1] h (rV fun h1 => h1.2.2 = (h).2.2 ∧ gC l G d MX3_readPart [.ref 4, .int x1] h1 (rI fun v2 h2 => h2.2.2 = (h1).2.2 ∧ gC l G d MX3_put [.ref 4, .int (h.1 1 3)] h2 (rV fun h3 => h3.2.2 = (h2).2.2 ∧ gg p l e s m args below meth c G (d + 1) MX3_readProduct Q 8 [some (.ref 4), some (.int x1), some (.int v2), some (.int (x3 + 1)), none] [] h3)))) ∧ (¬ (h.1 1 3) = 42 → ((¬ (h.1 1 3) = 47 → ((x2 = 0 ∨ x2 = 1) ∧ Q (some (.int x2)) h)) ∧ ((h.1 1 3) = 47 → gC l G d MX5_move [.ref 1] h (rV fun h4 => h4.2.2 = (h).2.2 ∧ gC l G d MX3_readPart [.ref 4, .int x1] h4 (rI fun v5 h5 => h5.2.2 = (h4).2.2 ∧ gC l G d MX3_put [.ref 4, .int (h.1 1 3)] h5 (rV fun h6 => h6.2.2 = (h5).2.2 ∧ gg p l e s m args below meth c G (d + 1) MX3_readProduct Q 8 [some (.ref 4), some (.int x1), some (.int v5), some (.int (x3 + 1)), none] [] h6)))))))))))) : gg p l e s m args below meth c G (d + 1) MX3_readProduct Q 8 [some (.ref 4), some (.int x1), some (.int x2), some (.int x3), none] [] h := by
  refine go_iload_n (x := x3) dX3_readProduct_8 rfl ?_
  refine go_sipush (v := 1600) dX3_readProduct_9 rfl ?_
  refine go_icmp_ge 77 dX3_readProduct_12 rfl (fun q => ?_) (fun q => ?_)
  · replace vc := vc.1 q
    refine go_iload_n (x := x2) dX3_readProduct_77 rfl ?_
    exact go_zret dX3_readProduct_78 rfl vc.1 vc.2 rfl (Nat.le_refl _) (Nat.le_refl _)
  · replace vc := vc.2 q
    refine go_iload_n (x := x2) dX3_readProduct_15 rfl ?_
    refine go_if_eq 77 dX3_readProduct_16 rfl (fun q => ?_) (fun q => ?_)
    · replace vc := vc.1 q
      refine go_iload_n (x := x2) dX3_readProduct_77 rfl ?_
      exact go_zret dX3_readProduct_78 rfl vc.1 vc.2 rfl (Nat.le_refl _) (Nat.le_refl _)
    · replace vc := vc.2 q
      refine go_aload_n (x := 4) dX3_readProduct_19 rfl ?_
      refine go_getR (x := 1) dX3_readProduct_20 f3_11 sh4 (fun _ _ => rfl) (rf4_0 hR) ?_
      refine go_getI' (v := (h.1 1 3)) dX3_readProduct_23 f3_44 sh1 (fun _ _ => rfl) rfl ?_
      refine go_bipush (v := 42) dX3_readProduct_26 rfl ?_
      refine go_icmp_eq 43 dX3_readProduct_28 rfl (fun q => ?_) (fun q => ?_)
      · replace vc := vc.1 q
        refine go_aload_n (x := 4) dX3_readProduct_43 rfl ?_
        refine go_getR (x := 1) dX3_readProduct_44 f3_11 sh4 (fun _ _ => rfl) (rf4_0 hR) ?_
        refine go_getI' (v := (h.1 1 3)) dX3_readProduct_47 f3_44 sh1 (fun _ _ => rfl) rfl ?_
        refine go_istore dX3_readProduct_50 (Nat.le_of_ble_eq_true rfl) ?_
        show gg p l e s m args below meth c G (d + 1) MX3_readProduct Q 52 [some (.ref 4), some (.int x1), some (.int x2), some (.int x3), some (.int (h.1 1 3))] [] h
        refine go_aload_n (x := 4) dX3_readProduct_52 rfl ?_
        refine go_getR (x := 1) dX3_readProduct_53 f3_11 sh4 (fun _ _ => rfl) (rf4_0 hR) ?_
        refine gvV0 MX5_move dX3_readProduct_56 lX3_23 kX5_move vX5_move sh1 (by decide) rfl (Nat.le_of_ble_eq_true rfl) vc ?_
        intro h1 vc
        obtain ⟨hR1, vc⟩ := vc
        replace hR := hR1.trans hR
        refine go_aload_n (x := 4) dX3_readProduct_59 rfl ?_
        refine go_iload_n (x := x1) dX3_readProduct_60 rfl ?_
        refine gvI1 MX3_readPart dX3_readProduct_61 lX3_86 kX3_readPart vX3_readPart sh4 (by decide) rfl (Nat.le_of_ble_eq_true rfl) vc ?_
        intro v2 h2 vc
        obtain ⟨hR2, vc⟩ := vc
        replace hR := hR2.trans hR
        refine go_istore_n dX3_readProduct_64 (Nat.le_of_ble_eq_true rfl) ?_
        show gg p l e s m args below meth c G (d + 1) MX3_readProduct Q 65 [some (.ref 4), some (.int x1), some (.int v2), some (.int x3), some (.int (h.1 1 3))] [] h2
        refine go_aload_n (x := 4) dX3_readProduct_65 rfl ?_
        refine go_iload (x := (h.1 1 3)) dX3_readProduct_66 rfl ?_
        refine gvV1 MX3_put dX3_readProduct_68 lX3_68 kX3_put vX3_put sh4 (by decide) rfl (Nat.le_of_ble_eq_true rfl) vc ?_
        intro h3 vc
        obtain ⟨hR3, vc⟩ := vc
        replace hR := hR3.trans hR
        refine go_iinc (x := x3) dX3_readProduct_71 rfl ?_
        show gg p l e s m args below meth c G (d + 1) MX3_readProduct Q 74 [some (.ref 4), some (.int x1), some (.int v2), some (.int (x3 + 1)), some (.int (h.1 1 3))] [] h3
        refine go_goto 8 dX3_readProduct_74 rfl ?_
        refine go_weak (ls' := [some (.ref 4), some (.int x1), some (.int v2), some (.int (x3 + 1)), none]) ?_ vc
        exact (⟨rfl, ⟨rfl, ⟨rfl, ⟨rfl, trivial⟩⟩⟩⟩)
      · replace vc := vc.2 q
        refine go_aload_n (x := 4) dX3_readProduct_31 rfl ?_
        refine go_getR (x := 1) dX3_readProduct_32 f3_11 sh4 (fun _ _ => rfl) (rf4_0 hR) ?_
        refine go_getI' (v := (h.1 1 3)) dX3_readProduct_35 f3_44 sh1 (fun _ _ => rfl) rfl ?_
        refine go_bipush (v := 47) dX3_readProduct_38 rfl ?_
        refine go_icmp_ne 77 dX3_readProduct_40 rfl (fun q => ?_) (fun q => ?_)
        · replace vc := vc.1 q
          refine go_iload_n (x := x2) dX3_readProduct_77 rfl ?_
          exact go_zret dX3_readProduct_78 rfl vc.1 vc.2 rfl (Nat.le_refl _) (Nat.le_refl _)
        · replace vc := vc.2 q
          refine go_aload_n (x := 4) dX3_readProduct_43 rfl ?_
          refine go_getR (x := 1) dX3_readProduct_44 f3_11 sh4 (fun _ _ => rfl) (rf4_0 hR) ?_
          refine go_getI' (v := (h.1 1 3)) dX3_readProduct_47 f3_44 sh1 (fun _ _ => rfl) rfl ?_
          refine go_istore dX3_readProduct_50 (Nat.le_of_ble_eq_true rfl) ?_
          show gg p l e s m args below meth c G (d + 1) MX3_readProduct Q 52 [some (.ref 4), some (.int x1), some (.int x2), some (.int x3), some (.int (h.1 1 3))] [] h
          refine go_aload_n (x := 4) dX3_readProduct_52 rfl ?_
          refine go_getR (x := 1) dX3_readProduct_53 f3_11 sh4 (fun _ _ => rfl) (rf4_0 hR) ?_
          refine gvV0 MX5_move dX3_readProduct_56 lX3_23 kX5_move vX5_move sh1 (by decide) rfl (Nat.le_of_ble_eq_true rfl) vc ?_
          intro h4 vc
          obtain ⟨hR4, vc⟩ := vc
          replace hR := hR4.trans hR
          refine go_aload_n (x := 4) dX3_readProduct_59 rfl ?_
          refine go_iload_n (x := x1) dX3_readProduct_60 rfl ?_
          refine gvI1 MX3_readPart dX3_readProduct_61 lX3_86 kX3_readPart vX3_readPart sh4 (by decide) rfl (Nat.le_of_ble_eq_true rfl) vc ?_
          intro v5 h5 vc
          obtain ⟨hR5, vc⟩ := vc
          replace hR := hR5.trans hR
          refine go_istore_n dX3_readProduct_64 (Nat.le_of_ble_eq_true rfl) ?_
          show gg p l e s m args below meth c G (d + 1) MX3_readProduct Q 65 [some (.ref 4), some (.int x1), some (.int v5), some (.int x3), some (.int (h.1 1 3))] [] h5
          refine go_aload_n (x := 4) dX3_readProduct_65 rfl ?_
          refine go_iload (x := (h.1 1 3)) dX3_readProduct_66 rfl ?_
          refine gvV1 MX3_put dX3_readProduct_68 lX3_68 kX3_put vX3_put sh4 (by decide) rfl (Nat.le_of_ble_eq_true rfl) vc ?_
          intro h6 vc
          obtain ⟨hR6, vc⟩ := vc
          replace hR := hR6.trans hR
          refine go_iinc (x := x3) dX3_readProduct_71 rfl ?_
          show gg p l e s m args below meth c G (d + 1) MX3_readProduct Q 74 [some (.ref 4), some (.int x1), some (.int v5), some (.int (x3 + 1)), some (.int (h.1 1 3))] [] h6
          refine go_goto 8 dX3_readProduct_74 rfl ?_
          refine go_weak (ls' := [some (.ref 4), some (.int x1), some (.int v5), some (.int (x3 + 1)), none]) ?_ vc
          exact (⟨rfl, ⟨rfl, ⟨rfl, ⟨rfl, trivial⟩⟩⟩⟩)
set_option maxRecDepth 20000 in
theorem wX3_readPart_0 {p : Program} {l : Launch} {e : Env} {s : State} {m : MethodId} {args : Array Value} {below : List Frame} {meth : Method} {c : Code} {G : gG} {d : Nat} {Q : Option Value → gH → Prop} {h : gH} {lk sp : Nat} {cd : Option Nat} {a1 : Int32} (hR : h.2.2 = gRF lk sp cd) (hlk : lk = 30 ∨ lk = 67) (hsp : sp = 30 ∨ sp = 67)  (vc : ((¬ (h.1 1 3) = (-3) → ((¬ (h.1 1 3) = 40 → (((h.1 1 3) = (-2) → (((h.1 1 6) = 32 → gC l G d MX3_readPair [.ref 4, .int a1] h (rI fun v1 h1 => h1.2.2 = (h).2.2 ∧ ((v1 = 0 ∨ v1 = 1) ∧ Q (some (.int v1)) h1))) ∧ (¬ (h.1 1 6) = 32 → ((¬ (h.1 1 6) = 33 → gC l G d MX3_readWord [.ref 4, .int a1] h (rI fun v2 h2 => h2.2.2 = (h).2.2 ∧ ((v2 = 0 ∨ v2 = 1) ∧ Q (some (.int v2)) h2))) ∧ ((h.1 1 6) = 33 → gC l G d MX3_readPair [.ref 4, .int a1] h (rI fun v3 h3 => h3.2.2 = (h).2.2 ∧ ((v3 = 0 ∨ v3 = 1) ∧ Q (some (.int v3)) h3))))))) ∧ (¬ (h.1 1 3) = (-2) → gC l G d MX5_failHere [.ref 1, .int 1] h (rI fun v4 h4 => h4.2.2 = (h).2.2 ∧ ((v4 = 0 ∨ v4 = 1) ∧ Q (some (.int v4)) h4))))) ∧ ((h.1 1 3) = 40 → gC l G d MX3_openOne [.ref 4, .int a1] h (rI fun v5 h5 => h5.2.2 = (h).2.2 ∧ ((v5 = 0 → Q (some (.int 0)) h5) ∧ (¬ v5 = 0 → gC l G d MX3_readSum [.ref 4, .int (a1 + 1)] h5 (rI fun v6 h6 => h6.2.2 = (h5).2.2 ∧ ((v6 = 0 → Q (some (.int 0)) h6) ∧ (¬ v6 = 0 → gC l G d MX5_takeSign [.ref 1, .int 41] h6 (rI fun v7 h7 => h7.2.2 = (h6).2.2 ∧ ((v7 = 0 → Q (some (.int 0)) h7) ∧ (¬ v7 = 0 → Q (some (.int 1)) h7)))))))))))) ∧ ((h.1 1 3) = (-3) → gC l G d MX5_takeNumber [.ref 1, .int 0, .int 9999] h (rI fun v8 h8 => h8.2.2 = (h).2.2 ∧ gC l G d MX3_putNumber [.ref 4, .int v8] h8 (rV fun h9 => h9.2.2 = (h8).2.2 ∧ ((v8 = (-1) → Q (some (.int 0)) h9) ∧ (¬ v8 = (-1) → Q (some (.int 1)) h9))))))) : gg p l e s m args below meth c G (d + 1) MX3_readPart Q 0 [some (.ref 4), some (.int a1), none] [] h := by
  refine go_aload_n (x := 4) dX3_readPart_0 rfl ?_
  refine go_getR (x := 1) dX3_readPart_1 f3_11 sh4 (fun _ _ => rfl) (rf4_0 hR) ?_
  refine go_getI' (v := (h.1 1 3)) dX3_readPart_4 f3_44 sh1 (fun _ _ => rfl) rfl ?_
  refine go_bipush (v := (-3)) dX3_readPart_7 rfl ?_
  refine go_icmp_ne 40 dX3_readPart_9 rfl (fun q => ?_) (fun q => ?_)
  · replace vc := vc.1 q
    refine go_aload_n (x := 4) dX3_readPart_40 rfl ?_
    refine go_getR (x := 1) dX3_readPart_41 f3_11 sh4 (fun _ _ => rfl) (rf4_0 hR) ?_
    refine go_getI' (v := (h.1 1 3)) dX3_readPart_44 f3_44 sh1 (fun _ _ => rfl) rfl ?_
    refine go_bipush (v := 40) dX3_readPart_47 rfl ?_
    refine go_icmp_ne 88 dX3_readPart_49 rfl (fun q => ?_) (fun q => ?_)
    · replace vc := vc.1 q
      refine go_aload_n (x := 4) dX3_readPart_88 rfl ?_
      refine go_getR (x := 1) dX3_readPart_89 f3_11 sh4 (fun _ _ => rfl) (rf4_0 hR) ?_
      refine go_getI' (v := (h.1 1 3)) dX3_readPart_92 f3_44 sh1 (fun _ _ => rfl) rfl ?_
      refine go_bipush (v := (-2)) dX3_readPart_95 rfl ?_
      refine go_icmp_eq 109 dX3_readPart_97 rfl (fun q => ?_) (fun q => ?_)
      · replace vc := vc.1 q
        refine go_aload_n (x := 4) dX3_readPart_109 rfl ?_
        refine go_getR (x := 1) dX3_readPart_110 f3_11 sh4 (fun _ _ => rfl) (rf4_0 hR) ?_
        refine go_getI' (v := (h.1 1 6)) dX3_readPart_113 f3_48 sh1 (fun _ _ => rfl) rfl ?_
        refine go_bipush (v := 32) dX3_readPart_116 rfl ?_
        refine go_icmp_eq 133 dX3_readPart_118 rfl (fun q => ?_) (fun q => ?_)
        · replace vc := vc.1 q
          refine go_aload_n (x := 4) dX3_readPart_133 rfl ?_
          refine go_iload_n (x := a1) dX3_readPart_134 rfl ?_
          refine gvI1 MX3_readPair dX3_readPart_135 lX3_93 kX3_readPair vX3_readPair sh4 (by decide) rfl (Nat.le_of_ble_eq_true rfl) vc ?_
          intro v1 h1 vc
          obtain ⟨hR1, vc⟩ := vc
          replace hR := hR1.trans hR
          exact go_zret dX3_readPart_138 rfl vc.1 vc.2 rfl (Nat.le_refl _) (Nat.le_refl _)
        · replace vc := vc.2 q
          refine go_aload_n (x := 4) dX3_readPart_121 rfl ?_
          refine go_getR (x := 1) dX3_readPart_122 f3_11 sh4 (fun _ _ => rfl) (rf4_0 hR) ?_
          refine go_getI' (v := (h.1 1 6)) dX3_readPart_125 f3_48 sh1 (fun _ _ => rfl) rfl ?_
          refine go_bipush (v := 33) dX3_readPart_128 rfl ?_
          refine go_icmp_ne 139 dX3_readPart_130 rfl (fun q => ?_) (fun q => ?_)
          · replace vc := vc.1 q
            refine go_aload_n (x := 4) dX3_readPart_139 rfl ?_
            refine go_iload_n (x := a1) dX3_readPart_140 rfl ?_
            refine gvI1 MX3_readWord dX3_readPart_141 lX3_96 kX3_readWord vX3_readWord sh4 (by decide) rfl (Nat.le_of_ble_eq_true rfl) vc ?_
            intro v2 h2 vc
            obtain ⟨hR2, vc⟩ := vc
            replace hR := hR2.trans hR
            exact go_zret dX3_readPart_144 rfl vc.1 vc.2 rfl (Nat.le_refl _) (Nat.le_refl _)
          · replace vc := vc.2 q
            refine go_aload_n (x := 4) dX3_readPart_133 rfl ?_
            refine go_iload_n (x := a1) dX3_readPart_134 rfl ?_
            refine gvI1 MX3_readPair dX3_readPart_135 lX3_93 kX3_readPair vX3_readPair sh4 (by decide) rfl (Nat.le_of_ble_eq_true rfl) vc ?_
            intro v3 h3 vc
            obtain ⟨hR3, vc⟩ := vc
            replace hR := hR3.trans hR
            exact go_zret dX3_readPart_138 rfl vc.1 vc.2 rfl (Nat.le_refl _) (Nat.le_refl _)
      · replace vc := vc.2 q
        refine go_aload_n (x := 4) dX3_readPart_100 rfl ?_
        refine go_getR (x := 1) dX3_readPart_101 f3_11 sh4 (fun _ _ => rfl) (rf4_0 hR) ?_
        refine go_iconst (v := 1) dX3_readPart_104 rfl ?_
        refine gvI1 MX5_failHere dX3_readPart_105 lX3_51 kX5_failHere vX5_failHere sh1 (by decide) rfl (Nat.le_of_ble_eq_true rfl) vc ?_
        intro v4 h4 vc
        obtain ⟨hR4, vc⟩ := vc
        replace hR := hR4.trans hR
        exact go_zret dX3_readPart_108 rfl vc.1 vc.2 rfl (Nat.le_refl _) (Nat.le_refl _)
    · replace vc := vc.2 q
      refine go_aload_n (x := 4) dX3_readPart_52 rfl ?_
      refine go_iload_n (x := a1) dX3_readPart_53 rfl ?_
      refine gvI1 MX3_openOne dX3_readPart_54 lX3_74 kX3_openOne vX3_openOne sh4 (by decide) rfl (Nat.le_of_ble_eq_true rfl) vc ?_
      intro v5 h5 vc
      obtain ⟨hR5, vc⟩ := vc
      replace hR := hR5.trans hR
      refine go_if_eq 86 dX3_readPart_57 rfl (fun q => ?_) (fun q => ?_)
      · replace vc := vc.1 q
        refine go_iconst (v := 0) dX3_readPart_86 rfl ?_
        exact go_zret dX3_readPart_87 rfl (by decide) vc rfl (Nat.le_refl _) (Nat.le_refl _)
      · replace vc := vc.2 q
        refine go_aload_n (x := 4) dX3_readPart_60 rfl ?_
        refine go_iload_n (x := a1) dX3_readPart_61 rfl ?_
        refine go_iconst (v := 1) dX3_readPart_62 rfl ?_
        refine go_iadd dX3_readPart_63 ?_
        refine gvI1 MX3_readSum dX3_readPart_64 lX3_34 kX3_readSum vX3_readSum sh4 (by decide) rfl (Nat.le_of_ble_eq_true rfl) vc ?_
        intro v6 h6 vc
        obtain ⟨hR6, vc⟩ := vc
        replace hR := hR6.trans hR
        refine go_if_eq 86 dX3_readPart_67 rfl (fun q => ?_) (fun q => ?_)
        · replace vc := vc.1 q
          refine go_iconst (v := 0) dX3_readPart_86 rfl ?_
          exact go_zret dX3_readPart_87 rfl (by decide) vc rfl (Nat.le_refl _) (Nat.le_refl _)
        · replace vc := vc.2 q
          refine go_aload_n (x := 4) dX3_readPart_70 rfl ?_
          refine go_getR (x := 1) dX3_readPart_71 f3_11 sh4 (fun _ _ => rfl) (rf4_0 hR) ?_
          refine go_bipush (v := 41) dX3_readPart_74 rfl ?_
          refine gvI1 MX5_takeSign dX3_readPart_76 lX3_59 kX5_takeSign vX5_takeSign sh1 (by decide) rfl (Nat.le_of_ble_eq_true rfl) vc ?_
          intro v7 h7 vc
          obtain ⟨hR7, vc⟩ := vc
          replace hR := hR7.trans hR
          refine go_if_eq 86 dX3_readPart_79 rfl (fun q => ?_) (fun q => ?_)
          · replace vc := vc.1 q
            refine go_iconst (v := 0) dX3_readPart_86 rfl ?_
            exact go_zret dX3_readPart_87 rfl (by decide) vc rfl (Nat.le_refl _) (Nat.le_refl _)
          · replace vc := vc.2 q
            refine go_iconst (v := 1) dX3_readPart_82 rfl ?_
            refine go_goto 87 dX3_readPart_83 rfl ?_
            exact go_zret dX3_readPart_87 rfl (by decide) vc rfl (Nat.le_refl _) (Nat.le_refl _)
  · replace vc := vc.2 q
    refine go_aload_n (x := 4) dX3_readPart_12 rfl ?_
    refine go_getR (x := 1) dX3_readPart_13 f3_11 sh4 (fun _ _ => rfl) (rf4_0 hR) ?_
    refine go_iconst (v := 0) dX3_readPart_16 rfl ?_
    refine go_sipush (v := 9999) dX3_readPart_17 rfl ?_
    refine gvI2 MX5_takeNumber dX3_readPart_20 lX3_89 kX5_takeNumber vX5_takeNumber sh1 (by decide) rfl (Nat.le_of_ble_eq_true rfl) vc ?_
    intro v8 h8 vc
    obtain ⟨hR8, vc⟩ := vc
    replace hR := hR8.trans hR
    refine go_istore_n dX3_readPart_23 (Nat.le_of_ble_eq_true rfl) ?_
    show gg p l e s m args below meth c G (d + 1) MX3_readPart Q 24 [some (.ref 4), some (.int a1), some (.int v8)] [] h8
    refine go_aload_n (x := 4) dX3_readPart_24 rfl ?_
    refine go_iload_n (x := v8) dX3_readPart_25 rfl ?_
    refine gvV1 MX3_putNumber dX3_readPart_26 lX3_77 kX3_putNumber vX3_putNumber sh4 (by decide) rfl (Nat.le_of_ble_eq_true rfl) vc ?_
    intro h9 vc
    obtain ⟨hR9, vc⟩ := vc
    replace hR := hR9.trans hR
    refine go_iload_n (x := v8) dX3_readPart_29 rfl ?_
    refine go_iconst (v := (-1)) dX3_readPart_30 rfl ?_
    refine go_icmp_eq 38 dX3_readPart_31 rfl (fun q => ?_) (fun q => ?_)
    · replace vc := vc.1 q
      refine go_iconst (v := 0) dX3_readPart_38 rfl ?_
      exact go_zret dX3_readPart_39 rfl (by decide) vc rfl (Nat.le_refl _) (Nat.le_refl _)
    · replace vc := vc.2 q
      refine go_iconst (v := 1) dX3_readPart_34 rfl ?_
      refine go_goto 39 dX3_readPart_35 rfl ?_
      exact go_zret dX3_readPart_39 rfl (by decide) vc rfl (Nat.le_refl _) (Nat.le_refl _)
set_option maxRecDepth 20000 in
theorem wX3_readPair_0 {p : Program} {l : Launch} {e : Env} {s : State} {m : MethodId} {args : Array Value} {below : List Frame} {meth : Method} {c : Code} {G : gG} {d : Nat} {Q : Option Value → gH → Prop} {h : gH} {lk sp : Nat} {cd : Option Nat} {a1 : Int32} (hR : h.2.2 = gRF lk sp cd) (hlk : lk = 30 ∨ lk = 67) (hsp : sp = 30 ∨ sp = 67)  (vc : gC l G d MX5_move [.ref 1] h (rV fun h1 => h1.2.2 = (h).2.2 ∧ (((h1.1 1 3) = 40 → gC l G d MX3_openOne [.ref 4, .int a1] h1 (rI fun v2 h2 => h2.2.2 = (h1).2.2 ∧ ((v2 = 0 → gC l G d MX3_put [.ref 4, .int (h.1 1 6)] h2 (rV fun h3 => h3.2.2 = (h2).2.2 ∧ Q (some (.int 0)) h3)) ∧ (¬ v2 = 0 → gC l G d MX3_readSum [.ref 4, .int (a1 + 1)] h2 (rI fun v4 h4 => h4.2.2 = (h2).2.2 ∧ ((v4 = 0 → gC l G d MX3_put [.ref 4, .int (h.1 1 6)] h4 (rV fun h5 => h5.2.2 = (h4).2.2 ∧ Q (some (.int 0)) h5)) ∧ (¬ v4 = 0 → gC l G d MX5_takeSign [.ref 1, .int 44] h4 (rI fun v6 h6 => h6.2.2 = (h4).2.2 ∧ ((v6 = 0 → gC l G d MX3_put [.ref 4, .int (h.1 1 6)] h6 (rV fun h7 => h7.2.2 = (h6).2.2 ∧ Q (some (.int 0)) h7)) ∧ (¬ v6 = 0 → gC l G d MX3_readSum [.ref 4, .int (a1 + 1)] h6 (rI fun v8 h8 => h8.2.2 = (h6).2.2 ∧ ((v8 = 0 → gC l G d MX3_put [.ref 4, .int (h.1 1 6)] h8 (rV fun h9 => h9.2.2 = (h8).2.2 ∧ Q (some (.int 0)) h9)) ∧ (¬ v8 = 0 → gC l G d MX5_takeSign [.ref 1, .int 41] h8 (rI fun v10 h10 => h10.2.2 = (h8).2.2 ∧ ((v10 = 0 → gC l G d MX3_put [.ref 4, .int (h.1 1 6)] h10 (rV fun h11 => h11.2.2 = (h10).2.2 ∧ Q (some (.int 0)) h11)) ∧ (¬ v10 = 0 → gC l G d MX3_put [.ref 4, .int (h.1 1 6)] h10 (rV fun h12 => h12.2.2 = (h10).2.2 ∧ Q (some (.int 1)) h12))))))))))))))))) ∧ (¬ (h1.1 1 3) = 40 → gC l G d MX5_failHere [.ref 1, .int 1] h1 (rI fun v13 h13 => h13.2.2 = (h1).2.2 ∧ ((v13 = 0 ∨ v13 = 1) ∧ Q (some (.int v13)) h13)))))) : gg p l e s m args below meth c G (d + 1) MX3_readPair Q 0 [some (.ref 4), some (.int a1), none, none] [] h := by
  refine go_aload_n (x := 4) dX3_readPair_0 rfl ?_
  refine go_getR (x := 1) dX3_readPair_1 f3_11 sh4 (fun _ _ => rfl) (rf4_0 hR) ?_
  refine go_getI' (v := (h.1 1 6)) dX3_readPair_4 f3_48 sh1 (fun _ _ => rfl) rfl ?_
  refine go_istore_n dX3_readPair_7 (Nat.le_of_ble_eq_true rfl) ?_
  show gg p l e s m args below meth c G (d + 1) MX3_readPair Q 8 [some (.ref 4), some (.int a1), some (.int (h.1 1 6)), none] [] h
  refine go_aload_n (x := 4) dX3_readPair_8 rfl ?_
  refine go_getR (x := 1) dX3_readPair_9 f3_11 sh4 (fun _ _ => rfl) (rf4_0 hR) ?_
  refine gvV0 MX5_move dX3_readPair_12 lX3_23 kX5_move vX5_move sh1 (by decide) rfl (Nat.le_of_ble_eq_true rfl) vc ?_
  intro h1 vc
  obtain ⟨hR1, vc⟩ := vc
  replace hR := hR1.trans hR
  refine go_aload_n (x := 4) dX3_readPair_15 rfl ?_
  refine go_getR (x := 1) dX3_readPair_16 f3_11 sh4 (fun _ _ => rfl) (rf4_0 hR) ?_
  refine go_getI' (v := (h1.1 1 3)) dX3_readPair_19 f3_44 sh1 (fun _ _ => rfl) rfl ?_
  refine go_bipush (v := 40) dX3_readPair_22 rfl ?_
  refine go_icmp_eq 36 dX3_readPair_24 rfl (fun q => ?_) (fun q => ?_)
  · replace vc := vc.1 q
    refine go_aload_n (x := 4) dX3_readPair_36 rfl ?_
    refine go_iload_n (x := a1) dX3_readPair_37 rfl ?_
    refine gvI1 MX3_openOne dX3_readPair_38 lX3_74 kX3_openOne vX3_openOne sh4 (by decide) rfl (Nat.le_of_ble_eq_true rfl) vc ?_
    intro v2 h2 vc
    obtain ⟨hR2, vc⟩ := vc
    replace hR := hR2.trans hR
    refine go_if_eq 92 dX3_readPair_41 rfl (fun q => ?_) (fun q => ?_)
    · replace vc := vc.1 q
      refine go_iconst (v := 0) dX3_readPair_92 rfl ?_
      refine go_istore_n dX3_readPair_93 (Nat.le_of_ble_eq_true rfl) ?_
      show gg p l e s m args below meth c G (d + 1) MX3_readPair Q 94 [some (.ref 4), some (.int a1), some (.int (h.1 1 6)), some (.int 0)] [] h2
      refine go_aload_n (x := 4) dX3_readPair_94 rfl ?_
      refine go_iload_n (x := (h.1 1 6)) dX3_readPair_95 rfl ?_
      refine gvV1 MX3_put dX3_readPair_96 lX3_68 kX3_put vX3_put sh4 (by decide) rfl (Nat.le_of_ble_eq_true rfl) vc ?_
      intro h3 vc
      obtain ⟨hR3, vc⟩ := vc
      replace hR := hR3.trans hR
      refine go_iload_n (x := 0) dX3_readPair_99 rfl ?_
      exact go_zret dX3_readPair_100 rfl (by decide) vc rfl (Nat.le_refl _) (Nat.le_refl _)
    · replace vc := vc.2 q
      refine go_aload_n (x := 4) dX3_readPair_44 rfl ?_
      refine go_iload_n (x := a1) dX3_readPair_45 rfl ?_
      refine go_iconst (v := 1) dX3_readPair_46 rfl ?_
      refine go_iadd dX3_readPair_47 ?_
      refine gvI1 MX3_readSum dX3_readPair_48 lX3_34 kX3_readSum vX3_readSum sh4 (by decide) rfl (Nat.le_of_ble_eq_true rfl) vc ?_
      intro v4 h4 vc
      obtain ⟨hR4, vc⟩ := vc
      replace hR := hR4.trans hR
      refine go_if_eq 92 dX3_readPair_51 rfl (fun q => ?_) (fun q => ?_)
      · replace vc := vc.1 q
        refine go_iconst (v := 0) dX3_readPair_92 rfl ?_
        refine go_istore_n dX3_readPair_93 (Nat.le_of_ble_eq_true rfl) ?_
        show gg p l e s m args below meth c G (d + 1) MX3_readPair Q 94 [some (.ref 4), some (.int a1), some (.int (h.1 1 6)), some (.int 0)] [] h4
        refine go_aload_n (x := 4) dX3_readPair_94 rfl ?_
        refine go_iload_n (x := (h.1 1 6)) dX3_readPair_95 rfl ?_
        refine gvV1 MX3_put dX3_readPair_96 lX3_68 kX3_put vX3_put sh4 (by decide) rfl (Nat.le_of_ble_eq_true rfl) vc ?_
        intro h5 vc
        obtain ⟨hR5, vc⟩ := vc
        replace hR := hR5.trans hR
        refine go_iload_n (x := 0) dX3_readPair_99 rfl ?_
        exact go_zret dX3_readPair_100 rfl (by decide) vc rfl (Nat.le_refl _) (Nat.le_refl _)
      · replace vc := vc.2 q
        refine go_aload_n (x := 4) dX3_readPair_54 rfl ?_
        refine go_getR (x := 1) dX3_readPair_55 f3_11 sh4 (fun _ _ => rfl) (rf4_0 hR) ?_
        refine go_bipush (v := 44) dX3_readPair_58 rfl ?_
        refine gvI1 MX5_takeSign dX3_readPair_60 lX3_59 kX5_takeSign vX5_takeSign sh1 (by decide) rfl (Nat.le_of_ble_eq_true rfl) vc ?_
        intro v6 h6 vc
        obtain ⟨hR6, vc⟩ := vc
        replace hR := hR6.trans hR
        refine go_if_eq 92 dX3_readPair_63 rfl (fun q => ?_) (fun q => ?_)
        · replace vc := vc.1 q
          refine go_iconst (v := 0) dX3_readPair_92 rfl ?_
          refine go_istore_n dX3_readPair_93 (Nat.le_of_ble_eq_true rfl) ?_
          show gg p l e s m args below meth c G (d + 1) MX3_readPair Q 94 [some (.ref 4), some (.int a1), some (.int (h.1 1 6)), some (.int 0)] [] h6
          refine go_aload_n (x := 4) dX3_readPair_94 rfl ?_
          refine go_iload_n (x := (h.1 1 6)) dX3_readPair_95 rfl ?_
          refine gvV1 MX3_put dX3_readPair_96 lX3_68 kX3_put vX3_put sh4 (by decide) rfl (Nat.le_of_ble_eq_true rfl) vc ?_
          intro h7 vc
          obtain ⟨hR7, vc⟩ := vc
          replace hR := hR7.trans hR
          refine go_iload_n (x := 0) dX3_readPair_99 rfl ?_
          exact go_zret dX3_readPair_100 rfl (by decide) vc rfl (Nat.le_refl _) (Nat.le_refl _)
        · replace vc := vc.2 q
          refine go_aload_n (x := 4) dX3_readPair_66 rfl ?_
          refine go_iload_n (x := a1) dX3_readPair_67 rfl ?_
          refine go_iconst (v := 1) dX3_readPair_68 rfl ?_
          refine go_iadd dX3_readPair_69 ?_
          refine gvI1 MX3_readSum dX3_readPair_70 lX3_34 kX3_readSum vX3_readSum sh4 (by decide) rfl (Nat.le_of_ble_eq_true rfl) vc ?_
          intro v8 h8 vc
          obtain ⟨hR8, vc⟩ := vc
          replace hR := hR8.trans hR
          refine go_if_eq 92 dX3_readPair_73 rfl (fun q => ?_) (fun q => ?_)
          · replace vc := vc.1 q
            refine go_iconst (v := 0) dX3_readPair_92 rfl ?_
            refine go_istore_n dX3_readPair_93 (Nat.le_of_ble_eq_true rfl) ?_
            show gg p l e s m args below meth c G (d + 1) MX3_readPair Q 94 [some (.ref 4), some (.int a1), some (.int (h.1 1 6)), some (.int 0)] [] h8
            refine go_aload_n (x := 4) dX3_readPair_94 rfl ?_
            refine go_iload_n (x := (h.1 1 6)) dX3_readPair_95 rfl ?_
            refine gvV1 MX3_put dX3_readPair_96 lX3_68 kX3_put vX3_put sh4 (by decide) rfl (Nat.le_of_ble_eq_true rfl) vc ?_
            intro h9 vc
            obtain ⟨hR9, vc⟩ := vc
            replace hR := hR9.trans hR
            refine go_iload_n (x := 0) dX3_readPair_99 rfl ?_
            exact go_zret dX3_readPair_100 rfl (by decide) vc rfl (Nat.le_refl _) (Nat.le_refl _)
          · replace vc := vc.2 q
            refine go_aload_n (x := 4) dX3_readPair_76 rfl ?_
            refine go_getR (x := 1) dX3_readPair_77 f3_11 sh4 (fun _ _ => rfl) (rf4_0 hR) ?_
            refine go_bipush (v := 41) dX3_readPair_80 rfl ?_
            refine gvI1 MX5_takeSign dX3_readPair_82 lX3_59 kX5_takeSign vX5_takeSign sh1 (by decide) rfl (Nat.le_of_ble_eq_true rfl) vc ?_
            intro v10 h10 vc
            obtain ⟨hR10, vc⟩ := vc
            replace hR := hR10.trans hR
            refine go_if_eq 92 dX3_readPair_85 rfl (fun q => ?_) (fun q => ?_)
            · replace vc := vc.1 q
              refine go_iconst (v := 0) dX3_readPair_92 rfl ?_
              refine go_istore_n dX3_readPair_93 (Nat.le_of_ble_eq_true rfl) ?_
              show gg p l e s m args below meth c G (d + 1) MX3_readPair Q 94 [some (.ref 4), some (.int a1), some (.int (h.1 1 6)), some (.int 0)] [] h10
              refine go_aload_n (x := 4) dX3_readPair_94 rfl ?_
              refine go_iload_n (x := (h.1 1 6)) dX3_readPair_95 rfl ?_
              refine gvV1 MX3_put dX3_readPair_96 lX3_68 kX3_put vX3_put sh4 (by decide) rfl (Nat.le_of_ble_eq_true rfl) vc ?_
              intro h11 vc
              obtain ⟨hR11, vc⟩ := vc
              replace hR := hR11.trans hR
              refine go_iload_n (x := 0) dX3_readPair_99 rfl ?_
              exact go_zret dX3_readPair_100 rfl (by decide) vc rfl (Nat.le_refl _) (Nat.le_refl _)
            · replace vc := vc.2 q
              refine go_iconst (v := 1) dX3_readPair_88 rfl ?_
              refine go_goto 93 dX3_readPair_89 rfl ?_
              refine go_istore_n dX3_readPair_93 (Nat.le_of_ble_eq_true rfl) ?_
              show gg p l e s m args below meth c G (d + 1) MX3_readPair Q 94 [some (.ref 4), some (.int a1), some (.int (h.1 1 6)), some (.int 1)] [] h10
              refine go_aload_n (x := 4) dX3_readPair_94 rfl ?_
              refine go_iload_n (x := (h.1 1 6)) dX3_readPair_95 rfl ?_
              refine gvV1 MX3_put dX3_readPair_96 lX3_68 kX3_put vX3_put sh4 (by decide) rfl (Nat.le_of_ble_eq_true rfl) vc ?_
              intro h12 vc
              obtain ⟨hR12, vc⟩ := vc
              replace hR := hR12.trans hR
              refine go_iload_n (x := 1) dX3_readPair_99 rfl ?_
              exact go_zret dX3_readPair_100 rfl (by decide) vc rfl (Nat.le_refl _) (Nat.le_refl _)
  · replace vc := vc.2 q
    refine go_aload_n (x := 4) dX3_readPair_27 rfl ?_
    refine go_getR (x := 1) dX3_readPair_28 f3_11 sh4 (fun _ _ => rfl) (rf4_0 hR) ?_
    refine go_iconst (v := 1) dX3_readPair_31 rfl ?_
    refine gvI1 MX5_failHere dX3_readPair_32 lX3_51 kX5_failHere vX5_failHere sh1 (by decide) rfl (Nat.le_of_ble_eq_true rfl) vc ?_
    intro v13 h13 vc
    obtain ⟨hR13, vc⟩ := vc
    replace hR := hR13.trans hR
    exact go_zret dX3_readPair_35 rfl vc.1 vc.2 rfl (Nat.le_refl _) (Nat.le_refl _)
set_option maxRecDepth 20000 in
theorem wX3_readWord_0 {p : Program} {l : Launch} {e : Env} {s : State} {m : MethodId} {args : Array Value} {below : List Frame} {meth : Method} {c : Code} {G : gG} {d : Nat} {Q : Option Value → gH → Prop} {h : gH} {lk sp : Nat} {cd : Option Nat} {a1 : Int32} (hR : h.2.2 = gRF lk sp cd) (hlk : lk = 30 ∨ lk = 67) (hsp : sp = 30 ∨ sp = 67)  (vc : (((h.1 1 6) < 0 → gC l G d MX5_failHere [.ref 1, .int 1] h (rI fun v1 h1 => h1.2.2 = (h).2.2 ∧ ((v1 = 0 ∨ v1 = 1) ∧ Q (some (.int v1)) h1))) ∧ (¬ (h.1 1 6) < 0 → ((40 ≤ (h.1 1 6) → gC l G d MX5_failHere [.ref 1, .int 1] h (rI fun v2 h2 => h2.2.2 = (h).2.2 ∧ ((v2 = 0 ∨ v2 = 1) ∧ Q (some (.int v2)) h2))) ∧ (¬ 40 ≤ (h.1 1 6) → ((¬ (lg_cmp (((h.2.1 4 2) >>> (((h.1 1 6) : Int32).toInt64 &&& 63)) &&& 1) 0) = 0 → ((¬ (h.1 1 6) = 27 → gC l G d MX3_put [.ref 4, .int (h.1 1 6)] h (rV fun h3 => h3.2.2 = (h).2.2 ∧ gC l G d MX5_move [.ref 1] h3 (rV fun h4 => h4.2.2 = (h3).2.2 ∧ Q (some (.int 1)) h4))) ∧ ((h.1 1 6) = 27 → gC l G d MX3_openOne [.ref 4, .int a1] h (rI fun v5 h5 => h5.2.2 = (h).2.2 ∧ ((v5 = 0 → gC l G d MX3_put [.ref 4, .int 27] h5 (rV fun h6 => h6.2.2 = (h5).2.2 ∧ Q (some (.int 0)) h6)) ∧ (¬ v5 = 0 → gC l G d MX3_readPart [.ref 4, .int (a1 + 1)] h5 (rI fun v7 h7 => h7.2.2 = (h5).2.2 ∧ ((v7 = 0 → gC l G d MX3_put [.ref 4, .int 27] h7 (rV fun h8 => h8.2.2 = (h7).2.2 ∧ Q (some (.int 0)) h8)) ∧ (¬ v7 = 0 → gC l G d MX3_put [.ref 4, .int 27] h7 (rV fun h9 => h9.2.2 = (h7).2.2 ∧ Q (some (.int 1)) h9)))))))))) ∧ ((lg_cmp (((h.2.1 4 2) >>> (((h.1 1 6) : Int32).toInt64 &&& 63)) &&& 1) 0) = 0 → gC l G d MX5_failHere [.ref 1, .int 1] h (rI fun v10 h10 => h10.2.2 = (h).2.2 ∧ ((v10 = 0 ∨ v10 = 1) ∧ Q (some (.int v10)) h10))))))))) : gg p l e s m args below meth c G (d + 1) MX3_readWord Q 0 [some (.ref 4), some (.int a1), none, none] [] h := by
  refine go_aload_n (x := 4) dX3_readWord_0 rfl ?_
  refine go_getR (x := 1) dX3_readWord_1 f3_11 sh4 (fun _ _ => rfl) (rf4_0 hR) ?_
  refine go_getI' (v := (h.1 1 6)) dX3_readWord_4 f3_48 sh1 (fun _ _ => rfl) rfl ?_
  refine go_istore_n dX3_readWord_7 (Nat.le_of_ble_eq_true rfl) ?_
  show gg p l e s m args below meth c G (d + 1) MX3_readWord Q 8 [some (.ref 4), some (.int a1), some (.int (h.1 1 6)), none] [] h
  refine go_iload_n (x := (h.1 1 6)) dX3_readWord_8 rfl ?_
  refine go_if_lt 31 dX3_readWord_9 rfl (fun q => ?_) (fun q => ?_)
  · replace vc := vc.1 q
    refine go_aload_n (x := 4) dX3_readWord_31 rfl ?_
    refine go_getR (x := 1) dX3_readWord_32 f3_11 sh4 (fun _ _ => rfl) (rf4_0 hR) ?_
    refine go_iconst (v := 1) dX3_readWord_35 rfl ?_
    refine gvI1 MX5_failHere dX3_readWord_36 lX3_51 kX5_failHere vX5_failHere sh1 (by decide) rfl (Nat.le_of_ble_eq_true rfl) vc ?_
    intro v1 h1 vc
    obtain ⟨hR1, vc⟩ := vc
    replace hR := hR1.trans hR
    exact go_zret dX3_readWord_39 rfl vc.1 vc.2 rfl (Nat.le_refl _) (Nat.le_refl _)
  · replace vc := vc.2 q
    refine go_iload_n (x := (h.1 1 6)) dX3_readWord_12 rfl ?_
    refine go_bipush (v := 40) dX3_readWord_13 rfl ?_
    refine go_icmp_ge 31 dX3_readWord_15 rfl (fun q => ?_) (fun q => ?_)
    · replace vc := vc.1 q
      refine go_aload_n (x := 4) dX3_readWord_31 rfl ?_
      refine go_getR (x := 1) dX3_readWord_32 f3_11 sh4 (fun _ _ => rfl) (rf4_0 hR) ?_
      refine go_iconst (v := 1) dX3_readWord_35 rfl ?_
      refine gvI1 MX5_failHere dX3_readWord_36 lX3_51 kX5_failHere vX5_failHere sh1 (by decide) rfl (Nat.le_of_ble_eq_true rfl) vc ?_
      intro v2 h2 vc
      obtain ⟨hR2, vc⟩ := vc
      replace hR := hR2.trans hR
      exact go_zret dX3_readWord_39 rfl vc.1 vc.2 rfl (Nat.le_refl _) (Nat.le_refl _)
    · replace vc := vc.2 q
      refine go_aload_n (x := 4) dX3_readWord_18 rfl ?_
      refine go_getL' (v := (h.2.1 4 2)) dX3_readWord_19 f3_19 sh4 (fun _ _ => rfl) rfl ?_
      refine go_iload_n (x := (h.1 1 6)) dX3_readWord_22 rfl ?_
      refine go_lshr dX3_readWord_23 ?_
      refine go_lconst (v := 1) dX3_readWord_24 rfl ?_
      refine go_land dX3_readWord_25 ?_
      refine go_lconst (v := 0) dX3_readWord_26 rfl ?_
      refine go_lcmp dX3_readWord_27 ?_
      refine go_if_ne 40 dX3_readWord_28 rfl (fun q => ?_) (fun q => ?_)
      · replace vc := vc.1 q
        refine go_iload_n (x := (h.1 1 6)) dX3_readWord_40 rfl ?_
        refine go_bipush (v := 27) dX3_readWord_41 rfl ?_
        refine go_icmp_ne 78 dX3_readWord_43 rfl (fun q => ?_) (fun q => ?_)
        · replace vc := vc.1 q
          refine go_aload_n (x := 4) dX3_readWord_78 rfl ?_
          refine go_iload_n (x := (h.1 1 6)) dX3_readWord_79 rfl ?_
          refine gvV1 MX3_put dX3_readWord_80 lX3_68 kX3_put vX3_put sh4 (by decide) rfl (Nat.le_of_ble_eq_true rfl) vc ?_
          intro h3 vc
          obtain ⟨hR3, vc⟩ := vc
          replace hR := hR3.trans hR
          refine go_aload_n (x := 4) dX3_readWord_83 rfl ?_
          refine go_getR (x := 1) dX3_readWord_84 f3_11 sh4 (fun _ _ => rfl) (rf4_0 hR) ?_
          refine gvV0 MX5_move dX3_readWord_87 lX3_23 kX5_move vX5_move sh1 (by decide) rfl (Nat.le_of_ble_eq_true rfl) vc ?_
          intro h4 vc
          obtain ⟨hR4, vc⟩ := vc
          replace hR := hR4.trans hR
          refine go_iconst (v := 1) dX3_readWord_90 rfl ?_
          exact go_zret dX3_readWord_91 rfl (by decide) vc rfl (Nat.le_refl _) (Nat.le_refl _)
        · replace vc := vc.2 q
          refine go_aload_n (x := 4) dX3_readWord_46 rfl ?_
          refine go_iload_n (x := a1) dX3_readWord_47 rfl ?_
          refine gvI1 MX3_openOne dX3_readWord_48 lX3_74 kX3_openOne vX3_openOne sh4 (by decide) rfl (Nat.le_of_ble_eq_true rfl) vc ?_
          intro v5 h5 vc
          obtain ⟨hR5, vc⟩ := vc
          replace hR := hR5.trans hR
          refine go_if_eq 68 dX3_readWord_51 rfl (fun q => ?_) (fun q => ?_)
          · replace vc := vc.1 q
            refine go_iconst (v := 0) dX3_readWord_68 rfl ?_
            refine go_istore_n dX3_readWord_69 (Nat.le_of_ble_eq_true rfl) ?_
            show gg p l e s m args below meth c G (d + 1) MX3_readWord Q 70 [some (.ref 4), some (.int a1), some (.int (h.1 1 6)), some (.int 0)] [] h5
            refine go_aload_n (x := 4) dX3_readWord_70 rfl ?_
            refine go_bipush (v := 27) dX3_readWord_71 rfl ?_
            refine gvV1 MX3_put dX3_readWord_73 lX3_68 kX3_put vX3_put sh4 (by decide) rfl (Nat.le_of_ble_eq_true rfl) vc ?_
            intro h6 vc
            obtain ⟨hR6, vc⟩ := vc
            replace hR := hR6.trans hR
            refine go_iload_n (x := 0) dX3_readWord_76 rfl ?_
            exact go_zret dX3_readWord_77 rfl (by decide) vc rfl (Nat.le_refl _) (Nat.le_refl _)
          · replace vc := vc.2 q
            refine go_aload_n (x := 4) dX3_readWord_54 rfl ?_
            refine go_iload_n (x := a1) dX3_readWord_55 rfl ?_
            refine go_iconst (v := 1) dX3_readWord_56 rfl ?_
            refine go_iadd dX3_readWord_57 ?_
            refine gvI1 MX3_readPart dX3_readWord_58 lX3_86 kX3_readPart vX3_readPart sh4 (by decide) rfl (Nat.le_of_ble_eq_true rfl) vc ?_
            intro v7 h7 vc
            obtain ⟨hR7, vc⟩ := vc
            replace hR := hR7.trans hR
            refine go_if_eq 68 dX3_readWord_61 rfl (fun q => ?_) (fun q => ?_)
            · replace vc := vc.1 q
              refine go_iconst (v := 0) dX3_readWord_68 rfl ?_
              refine go_istore_n dX3_readWord_69 (Nat.le_of_ble_eq_true rfl) ?_
              show gg p l e s m args below meth c G (d + 1) MX3_readWord Q 70 [some (.ref 4), some (.int a1), some (.int (h.1 1 6)), some (.int 0)] [] h7
              refine go_aload_n (x := 4) dX3_readWord_70 rfl ?_
              refine go_bipush (v := 27) dX3_readWord_71 rfl ?_
              refine gvV1 MX3_put dX3_readWord_73 lX3_68 kX3_put vX3_put sh4 (by decide) rfl (Nat.le_of_ble_eq_true rfl) vc ?_
              intro h8 vc
              obtain ⟨hR8, vc⟩ := vc
              replace hR := hR8.trans hR
              refine go_iload_n (x := 0) dX3_readWord_76 rfl ?_
              exact go_zret dX3_readWord_77 rfl (by decide) vc rfl (Nat.le_refl _) (Nat.le_refl _)
            · replace vc := vc.2 q
              refine go_iconst (v := 1) dX3_readWord_64 rfl ?_
              refine go_goto 69 dX3_readWord_65 rfl ?_
              refine go_istore_n dX3_readWord_69 (Nat.le_of_ble_eq_true rfl) ?_
              show gg p l e s m args below meth c G (d + 1) MX3_readWord Q 70 [some (.ref 4), some (.int a1), some (.int (h.1 1 6)), some (.int 1)] [] h7
              refine go_aload_n (x := 4) dX3_readWord_70 rfl ?_
              refine go_bipush (v := 27) dX3_readWord_71 rfl ?_
              refine gvV1 MX3_put dX3_readWord_73 lX3_68 kX3_put vX3_put sh4 (by decide) rfl (Nat.le_of_ble_eq_true rfl) vc ?_
              intro h9 vc
              obtain ⟨hR9, vc⟩ := vc
              replace hR := hR9.trans hR
              refine go_iload_n (x := 1) dX3_readWord_76 rfl ?_
              exact go_zret dX3_readWord_77 rfl (by decide) vc rfl (Nat.le_refl _) (Nat.le_refl _)
      · replace vc := vc.2 q
        refine go_aload_n (x := 4) dX3_readWord_31 rfl ?_
        refine go_getR (x := 1) dX3_readWord_32 f3_11 sh4 (fun _ _ => rfl) (rf4_0 hR) ?_
        refine go_iconst (v := 1) dX3_readWord_35 rfl ?_
        refine gvI1 MX5_failHere dX3_readWord_36 lX3_51 kX5_failHere vX5_failHere sh1 (by decide) rfl (Nat.le_of_ble_eq_true rfl) vc ?_
        intro v10 h10 vc
        obtain ⟨hR10, vc⟩ := vc
        replace hR := hR10.trans hR
        exact go_zret dX3_readWord_39 rfl vc.1 vc.2 rfl (Nat.le_refl _) (Nat.le_refl _)
set_option maxRecDepth 20000 in
theorem wX3_openOne_0 {p : Program} {l : Launch} {e : Env} {s : State} {m : MethodId} {args : Array Value} {below : List Frame} {meth : Method} {c : Code} {G : gG} {d : Nat} {Q : Option Value → gH → Prop} {h : gH} {lk sp : Nat} {cd : Option Nat} {a1 : Int32} (hR : h.2.2 = gRF lk sp cd) (hlk : lk = 30 ∨ lk = 67) (hsp : sp = 30 ∨ sp = 67)  (vc : ((a1 < 6 → gC l G d MX5_move [.ref 1] h (rV fun h1 => h1.2.2 = (h).2.2 ∧ Q (some (.int 1)) h1)) ∧ (¬ a1 < 6 → gC l G d MX5_failHere [.ref 1, .int 4] h (rI fun v2 h2 => h2.2.2 = (h).2.2 ∧ ((v2 = 0 ∨ v2 = 1) ∧ Q (some (.int v2)) h2))))) : gg p l e s m args below meth c G (d + 1) MX3_openOne Q 0 [some (.ref 4), some (.int a1)] [] h := by
  refine go_iload_n (x := a1) dX3_openOne_0 rfl ?_
  refine go_bipush (v := 6) dX3_openOne_1 rfl ?_
  refine go_icmp_lt 15 dX3_openOne_3 rfl (fun q => ?_) (fun q => ?_)
  · replace vc := vc.1 q
    refine go_aload_n (x := 4) dX3_openOne_15 rfl ?_
    refine go_getR (x := 1) dX3_openOne_16 f3_11 sh4 (fun _ _ => rfl) (rf4_0 hR) ?_
    refine gvV0 MX5_move dX3_openOne_19 lX3_23 kX5_move vX5_move sh1 (by decide) rfl (Nat.le_of_ble_eq_true rfl) vc ?_
    intro h1 vc
    obtain ⟨hR1, vc⟩ := vc
    replace hR := hR1.trans hR
    refine go_iconst (v := 1) dX3_openOne_22 rfl ?_
    exact go_zret dX3_openOne_23 rfl (by decide) vc rfl (Nat.le_refl _) (Nat.le_refl _)
  · replace vc := vc.2 q
    refine go_aload_n (x := 4) dX3_openOne_6 rfl ?_
    refine go_getR (x := 1) dX3_openOne_7 f3_11 sh4 (fun _ _ => rfl) (rf4_0 hR) ?_
    refine go_iconst (v := 4) dX3_openOne_10 rfl ?_
    refine gvI1 MX5_failHere dX3_openOne_11 lX3_51 kX5_failHere vX5_failHere sh1 (by decide) rfl (Nat.le_of_ble_eq_true rfl) vc ?_
    intro v2 h2 vc
    obtain ⟨hR2, vc⟩ := vc
    replace hR := hR2.trans hR
    exact go_zret dX3_openOne_14 rfl vc.1 vc.2 rfl (Nat.le_refl _) (Nat.le_refl _)
set_option maxRecDepth 20000 in
theorem wX3_put_0 {p : Program} {l : Launch} {e : Env} {s : State} {m : MethodId} {args : Array Value} {below : List Frame} {meth : Method} {c : Code} {G : gG} {d : Nat} {Q : Option Value → gH → Prop} {h : gH} {lk sp : Nat} {cd : Option Nat} {a1 : Int32} (hR : h.2.2 = gRF lk sp cd) (hlk : lk = 30 ∨ lk = 67) (hsp : sp = 30 ∨ sp = 67)  (vc : gC l G d MX3_putNumber [.ref 4, .int (a1 ^^^ (-1))] h (rV fun h1 => h1.2.2 = (h).2.2 ∧ Q none h1)) : gg p l e s m args below meth c G (d + 1) MX3_put Q 0 [some (.ref 4), some (.int a1)] [] h := by
  refine go_aload_n (x := 4) dX3_put_0 rfl ?_
  refine go_iload_n (x := a1) dX3_put_1 rfl ?_
  refine go_iconst (v := (-1)) dX3_put_2 rfl ?_
  refine go_ixor dX3_put_3 ?_
  refine gvV1 MX3_putNumber dX3_put_4 lX3_77 kX3_putNumber vX3_putNumber sh4 (by decide) rfl (Nat.le_of_ble_eq_true rfl) vc ?_
  intro h1 vc
  obtain ⟨hR1, vc⟩ := vc
  replace hR := hR1.trans hR
  exact go_vret dX3_put_7 rfl vc rfl (Nat.le_refl _) (Nat.le_refl _)
set_option maxRecDepth 20000 in
theorem wX3_putNumber_0 {p : Program} {l : Launch} {e : Env} {s : State} {m : MethodId} {args : Array Value} {below : List Frame} {meth : Method} {c : Code} {G : gG} {d : Nat} {Q : Option Value → gH → Prop} {h : gH} {lk sp : Nat} {cd : Option Nat} {a1 : Int32} {cc : Nat} (hR : h.2.2 = gRF lk sp cd) (hlk : lk = 30 ∨ lk = 67) (hsp : sp = 30 ∨ sp = 67)  (hcd : cd = some cc) (hcc : cc = 41 ∨ cc = 61 ∨ cc = 78) (vc : gC l G d MX0_add [.ref cc, .int a1] h (rV fun h1 => h1.2.2 = (h).2.2 ∧ Q none h1)) : gg p l e s m args below meth c G (d + 1) MX3_putNumber Q 0 [some (.ref 4), some (.int a1)] [] h := by
  refine go_aload_n (x := 4) dX3_putNumber_0 rfl ?_
  refine go_getR (x := cc) dX3_putNumber_1 f3_15 sh4 (fun _ _ => rfl) ((rf4_1 hR).trans hcd) ?_
  refine go_ifnull dX3_putNumber_4 ?_
  refine go_aload_n (x := 4) dX3_putNumber_7 rfl ?_
  refine go_getR (x := cc) dX3_putNumber_8 f3_15 sh4 (fun _ _ => rfl) ((rf4_1 hR).trans hcd) ?_
  refine go_iload_n (x := a1) dX3_putNumber_11 rfl ?_
  refine gvV1 MX0_add dX3_putNumber_12 lX3_99 kX0_add vX0_add (scx hcc) (by decide) rfl (Nat.le_of_ble_eq_true rfl) vc ?_
  intro h1 vc
  obtain ⟨hR1, vc⟩ := vc
  replace hR := hR1.trans hR
  exact go_vret dX3_putNumber_15 rfl vc rfl (Nat.le_refl _) (Nat.le_refl _)
set_option maxRecDepth 20000 in
theorem wX4_clear_0 {p : Program} {l : Launch} {e : Env} {s : State} {m : MethodId} {args : Array Value} {below : List Frame} {meth : Method} {c : Code} {G : gG} {d : Nat} {Q : Option Value → gH → Prop} {h : gH} {lk sp : Nat} {cd : Option Nat} {b : Nat} (hR : h.2.2 = gRF lk sp cd) (hlk : lk = 30 ∨ lk = 67) (hsp : sp = 30 ∨ sp = 67) (hb : b = 30 ∨ b = 67) (vc : gC l G d MX0_clear [.ref (b + 11)] (sI (sI (sI (sI (sI (sI (sI h b 11 0) b 12 0) b 13 0) b 14 0) b 15 0) b 16 5) b 17 0) (rV fun h1 => h1.2.2 = ((sI (sI (sI (sI (sI (sI (sI h b 11 0) b 12 0) b 13 0) b 14 0) b 15 0) b 16 5) b 17 0)).2.2 ∧ gC l G d MJ7_fill_53178 [.ref (b + 8), .int 0] h1 (rV fun h2 => h2.2.2 = (h1).2.2 ∧ Q none h2))) : gg p l e s m args below meth c G (d + 1) MX4_clear Q 0 [some (.ref b)] [] h := by
  refine go_aload_n (x := b) dX4_clear_0 rfl ?_
  refine go_iconst (v := 0) dX4_clear_1 rfl ?_
  refine go_putI dX4_clear_2 f4_53 (slx hb) rfl rfl ?_
  refine go_aload_n (x := b) dX4_clear_5 rfl ?_
  refine go_iconst (v := 0) dX4_clear_6 rfl ?_
  refine go_putI dX4_clear_7 f4_56 (slx hb) rfl rfl ?_
  refine go_aload_n (x := b) dX4_clear_10 rfl ?_
  refine go_iconst (v := 0) dX4_clear_11 rfl ?_
  refine go_putI dX4_clear_12 f4_59 (slx hb) rfl rfl ?_
  refine go_aload_n (x := b) dX4_clear_15 rfl ?_
  refine go_iconst (v := 0) dX4_clear_16 rfl ?_
  refine go_putI dX4_clear_17 f4_62 (slx hb) rfl rfl ?_
  refine go_aload_n (x := b) dX4_clear_20 rfl ?_
  refine go_iconst (v := 0) dX4_clear_21 rfl ?_
  refine go_putI dX4_clear_22 f4_65 (slx hb) rfl rfl ?_
  refine go_aload_n (x := b) dX4_clear_25 rfl ?_
  refine go_iconst (v := 5) dX4_clear_26 rfl ?_
  refine go_putI dX4_clear_27 f4_49 (slx hb) rfl rfl ?_
  refine go_aload_n (x := b) dX4_clear_30 rfl ?_
  refine go_iconst (v := 0) dX4_clear_31 rfl ?_
  refine go_putI dX4_clear_32 f4_68 (slx hb) rfl rfl ?_
  refine go_aload_n (x := b) dX4_clear_35 rfl ?_
  refine go_getR (x := (b + 11)) dX4_clear_36 f4_45 (slx hb) (fun _ _ => rfl) (rl_s hR hb (by decide)) ?_
  refine gvV0 MX0_clear dX4_clear_39 lX4_71 kX0_clear vX0_clear (sl11 hb) (by decide) rfl (Nat.le_of_ble_eq_true rfl) vc ?_
  intro h1 vc
  obtain ⟨hR1, vc⟩ := vc
  replace hR := hR1.trans hR
  refine go_aload_n (x := b) dX4_clear_42 rfl ?_
  refine go_getR (x := (b + 8)) dX4_clear_43 f4_33 (slx hb) (fun _ _ => rfl) (rl_s hR hb (by decide)) ?_
  refine go_iconst (v := 0) dX4_clear_46 rfl ?_
  refine gsV2 MJ7_fill_53178 dX4_clear_47 lX4_74 kJ7_fill_53178 sJ7_fill_53178 (Nat.le_of_ble_eq_true rfl) vc ?_
  intro h2 vc
  obtain ⟨hR2, vc⟩ := vc
  replace hR := hR2.trans hR
  exact go_vret dX4_clear_50 rfl vc rfl (Nat.le_refl _) (Nat.le_refl _)
set_option maxRecDepth 20000 in
theorem wX4_isNone_0 {p : Program} {l : Launch} {e : Env} {s : State} {m : MethodId} {args : Array Value} {below : List Frame} {meth : Method} {c : Code} {G : gG} {d : Nat} {Q : Option Value → gH → Prop} {h : gH} {lk sp : Nat} {cd : Option Nat} {b : Nat} (hR : h.2.2 = gRF lk sp cd) (hlk : lk = 30 ∨ lk = 67) (hsp : sp = 30 ∨ sp = 67) (hb : b = 30 ∨ b = 67) (vc : ((¬ (h.1 b 11) = 0 → Q (some (.int 0)) h) ∧ ((h.1 b 11) = 0 → Q (some (.int 1)) h))) : gg p l e s m args below meth c G d MX4_isNone Q 0 [some (.ref b)] [] h := by
  refine go_aload_n (x := b) dX4_isNone_0 rfl ?_
  refine go_getI' (v := (h.1 b 11)) dX4_isNone_1 f4_53 (slx hb) (fun _ _ => rfl) rfl ?_
  refine go_if_ne 11 dX4_isNone_4 rfl (fun q => ?_) (fun q => ?_)
  · replace vc := vc.1 q
    refine go_iconst (v := 0) dX4_isNone_11 rfl ?_
    exact go_zret dX4_isNone_12 rfl (by decide) vc rfl (Nat.le_refl _) (Nat.le_refl _)
  · replace vc := vc.2 q
    refine go_iconst (v := 1) dX4_isNone_7 rfl ?_
    refine go_goto 12 dX4_isNone_8 rfl ?_
    exact go_zret dX4_isNone_12 rfl (by decide) vc rfl (Nat.le_refl _) (Nat.le_refl _)
set_option maxRecDepth 20000 in
theorem wX4_cells_0 {p : Program} {l : Launch} {e : Env} {s : State} {m : MethodId} {args : Array Value} {below : List Frame} {meth : Method} {c : Code} {G : gG} {d : Nat} {Q : Option Value → gH → Prop} {h : gH} {lk sp : Nat} {cd : Option Nat} {b : Nat} (hR : h.2.2 = gRF lk sp cd) (hlk : lk = 30 ∨ lk = 67) (hsp : sp = 30 ∨ sp = 67) (hb : b = 30 ∨ b = 67) (vc : Q (some (.int (if ((h.1 b 11) * (h.1 b 12)) < 48 then ((h.1 b 11) * (h.1 b 12)) else 48))) h) : gg p l e s m args below meth c G (d + 1) MX4_cells Q 0 [some (.ref b)] [] h := by
  refine go_bipush (v := 48) dX4_cells_0 rfl ?_
  refine go_aload_n (x := b) dX4_cells_2 rfl ?_
  refine go_getI' (v := (h.1 b 11)) dX4_cells_3 f4_53 (slx hb) (fun _ _ => rfl) rfl ?_
  refine go_aload_n (x := b) dX4_cells_6 rfl ?_
  refine go_getI' (v := (h.1 b 12)) dX4_cells_7 f4_56 (slx hb) (fun _ _ => rfl) rfl ?_
  refine go_imul dX4_cells_10 ?_
  refine go_min dX4_cells_11 lX4_80 (Nat.le_of_ble_eq_true rfl) ?_
  exact go_iret dX4_cells_14 rfl vc rfl (Nat.le_refl _) (Nat.le_refl _)
set_option maxRecDepth 20000 in
theorem wX4_isCell_0 {p : Program} {l : Launch} {e : Env} {s : State} {m : MethodId} {args : Array Value} {below : List Frame} {meth : Method} {c : Code} {G : gG} {d : Nat} {Q : Option Value → gH → Prop} {h : gH} {lk sp : Nat} {cd : Option Nat} {b : Nat} {a1 : Int32} (hR : h.2.2 = gRF lk sp cd) (hlk : lk = 30 ∨ lk = 67) (hsp : sp = 30 ∨ sp = 67) (hb : b = 30 ∨ b = 67) (vc : ((a1 < 0 → Q (some (.int 0)) h) ∧ (¬ a1 < 0 → ((48 ≤ a1 → Q (some (.int 0)) h) ∧ (¬ 48 ≤ a1 → ((((h.1 b 11) * (h.1 b 12)) ≤ a1 → Q (some (.int 0)) h) ∧ (¬ ((h.1 b 11) * (h.1 b 12)) ≤ a1 → Q (some (.int 1)) h))))))) : gg p l e s m args below meth c G d MX4_isCell Q 0 [some (.ref b), some (.int a1)] [] h := by
  refine go_iload_n (x := a1) dX4_isCell_0 rfl ?_
  refine go_if_lt 27 dX4_isCell_1 rfl (fun q => ?_) (fun q => ?_)
  · replace vc := vc.1 q
    refine go_iconst (v := 0) dX4_isCell_27 rfl ?_
    exact go_zret dX4_isCell_28 rfl (by decide) vc rfl (Nat.le_refl _) (Nat.le_refl _)
  · replace vc := vc.2 q
    refine go_iload_n (x := a1) dX4_isCell_4 rfl ?_
    refine go_bipush (v := 48) dX4_isCell_5 rfl ?_
    refine go_icmp_ge 27 dX4_isCell_7 rfl (fun q => ?_) (fun q => ?_)
    · replace vc := vc.1 q
      refine go_iconst (v := 0) dX4_isCell_27 rfl ?_
      exact go_zret dX4_isCell_28 rfl (by decide) vc rfl (Nat.le_refl _) (Nat.le_refl _)
    · replace vc := vc.2 q
      refine go_iload_n (x := a1) dX4_isCell_10 rfl ?_
      refine go_aload_n (x := b) dX4_isCell_11 rfl ?_
      refine go_getI' (v := (h.1 b 11)) dX4_isCell_12 f4_53 (slx hb) (fun _ _ => rfl) rfl ?_
      refine go_aload_n (x := b) dX4_isCell_15 rfl ?_
      refine go_getI' (v := (h.1 b 12)) dX4_isCell_16 f4_56 (slx hb) (fun _ _ => rfl) rfl ?_
      refine go_imul dX4_isCell_19 ?_
      refine go_icmp_ge 27 dX4_isCell_20 rfl (fun q => ?_) (fun q => ?_)
      · replace vc := vc.1 q
        refine go_iconst (v := 0) dX4_isCell_27 rfl ?_
        exact go_zret dX4_isCell_28 rfl (by decide) vc rfl (Nat.le_refl _) (Nat.le_refl _)
      · replace vc := vc.2 q
        refine go_iconst (v := 1) dX4_isCell_23 rfl ?_
        refine go_goto 28 dX4_isCell_24 rfl ?_
        exact go_zret dX4_isCell_28 rfl (by decide) vc rfl (Nat.le_refl _) (Nat.le_refl _)
set_option maxRecDepth 20000 in
theorem wX4_isLand_0 {p : Program} {l : Launch} {e : Env} {s : State} {m : MethodId} {args : Array Value} {below : List Frame} {meth : Method} {c : Code} {G : gG} {d : Nat} {Q : Option Value → gH → Prop} {h : gH} {lk sp : Nat} {cd : Option Nat} {b : Nat} {a1 : Int32} (hR : h.2.2 = gRF lk sp cd) (hlk : lk = 30 ∨ lk = 67) (hsp : sp = 30 ∨ sp = 67) (hb : b = 30 ∨ b = 67) (vc : gC l G d MX4_isCell [.ref b, .int a1] h (rI fun v1 h1 => h1.2.2 = (h).2.2 ∧ ((v1 = 0 → Q (some (.int 0)) h1) ∧ (¬ v1 = 0 → (vp_in a1 48 ∧ ((¬ (h1.1 (b + 1) a1.toNatClampNeg) = 4 → Q (some (.int 0)) h1) ∧ ((h1.1 (b + 1) a1.toNatClampNeg) = 4 → Q (some (.int 1)) h1))))))) : gg p l e s m args below meth c G (d + 1) MX4_isLand Q 0 [some (.ref b), some (.int a1)] [] h := by
  refine go_aload_n (x := b) dX4_isLand_0 rfl ?_
  refine go_iload_n (x := a1) dX4_isLand_1 rfl ?_
  refine gvI1 MX4_isCell dX4_isLand_2 lX4_86 kX4_isCell vX4_isCell (slx hb) (by decide) rfl (Nat.le_of_ble_eq_true rfl) vc ?_
  intro v1 h1 vc
  obtain ⟨hR1, vc⟩ := vc
  replace hR := hR1.trans hR
  refine go_if_eq 22 dX4_isLand_5 rfl (fun q => ?_) (fun q => ?_)
  · replace vc := vc.1 q
    refine go_iconst (v := 0) dX4_isLand_22 rfl ?_
    exact go_zret dX4_isLand_23 rfl (by decide) vc rfl (Nat.le_refl _) (Nat.le_refl _)
  · replace vc := vc.2 q
    refine go_aload_n (x := b) dX4_isLand_8 rfl ?_
    refine go_getR (x := (b + 1)) dX4_isLand_9 f4_9 (slx hb) (fun _ _ => rfl) (rl_s hR hb (by decide)) ?_
    refine go_iload_n (x := a1) dX4_isLand_12 rfl ?_
    refine go_iald' (v := (h1.1 (b + 1) a1.toNatClampNeg)) dX4_isLand_13 (sl1 hb) vc.1 rfl ?_
    have vc := vc.2
    refine go_iconst (v := 4) dX4_isLand_14 rfl ?_
    refine go_icmp_ne 22 dX4_isLand_15 rfl (fun q => ?_) (fun q => ?_)
    · replace vc := vc.1 q
      refine go_iconst (v := 0) dX4_isLand_22 rfl ?_
      exact go_zret dX4_isLand_23 rfl (by decide) vc rfl (Nat.le_refl _) (Nat.le_refl _)
    · replace vc := vc.2 q
      refine go_iconst (v := 1) dX4_isLand_18 rfl ?_
      refine go_goto 23 dX4_isLand_19 rfl ?_
      exact go_zret dX4_isLand_23 rfl (by decide) vc rfl (Nat.le_refl _) (Nat.le_refl _)
set_option maxRecDepth 20000 in
theorem wX4_isWater_0 {p : Program} {l : Launch} {e : Env} {s : State} {m : MethodId} {args : Array Value} {below : List Frame} {meth : Method} {c : Code} {G : gG} {d : Nat} {Q : Option Value → gH → Prop} {h : gH} {lk sp : Nat} {cd : Option Nat} {b : Nat} {a1 : Int32} (hR : h.2.2 = gRF lk sp cd) (hlk : lk = 30 ∨ lk = 67) (hsp : sp = 30 ∨ sp = 67) (hb : b = 30 ∨ b = 67) (vc : gC l G d MX4_isCell [.ref b, .int a1] h (rI fun v1 h1 => h1.2.2 = (h).2.2 ∧ ((v1 = 0 → Q (some (.int 0)) h1) ∧ (¬ v1 = 0 → (vp_in a1 48 ∧ (((h1.1 (b + 1) a1.toNatClampNeg) = 4 → Q (some (.int 0)) h1) ∧ (¬ (h1.1 (b + 1) a1.toNatClampNeg) = 4 → Q (some (.int 1)) h1))))))) : gg p l e s m args below meth c G (d + 1) MX4_isWater Q 0 [some (.ref b), some (.int a1)] [] h := by
  refine go_aload_n (x := b) dX4_isWater_0 rfl ?_
  refine go_iload_n (x := a1) dX4_isWater_1 rfl ?_
  refine gvI1 MX4_isCell dX4_isWater_2 lX4_86 kX4_isCell vX4_isCell (slx hb) (by decide) rfl (Nat.le_of_ble_eq_true rfl) vc ?_
  intro v1 h1 vc
  obtain ⟨hR1, vc⟩ := vc
  replace hR := hR1.trans hR
  refine go_if_eq 22 dX4_isWater_5 rfl (fun q => ?_) (fun q => ?_)
  · replace vc := vc.1 q
    refine go_iconst (v := 0) dX4_isWater_22 rfl ?_
    exact go_zret dX4_isWater_23 rfl (by decide) vc rfl (Nat.le_refl _) (Nat.le_refl _)
  · replace vc := vc.2 q
    refine go_aload_n (x := b) dX4_isWater_8 rfl ?_
    refine go_getR (x := (b + 1)) dX4_isWater_9 f4_9 (slx hb) (fun _ _ => rfl) (rl_s hR hb (by decide)) ?_
    refine go_iload_n (x := a1) dX4_isWater_12 rfl ?_
    refine go_iald' (v := (h1.1 (b + 1) a1.toNatClampNeg)) dX4_isWater_13 (sl1 hb) vc.1 rfl ?_
    have vc := vc.2
    refine go_iconst (v := 4) dX4_isWater_14 rfl ?_
    refine go_icmp_eq 22 dX4_isWater_15 rfl (fun q => ?_) (fun q => ?_)
    · replace vc := vc.1 q
      refine go_iconst (v := 0) dX4_isWater_22 rfl ?_
      exact go_zret dX4_isWater_23 rfl (by decide) vc rfl (Nat.le_refl _) (Nat.le_refl _)
    · replace vc := vc.2 q
      refine go_iconst (v := 1) dX4_isWater_18 rfl ?_
      refine go_goto 23 dX4_isWater_19 rfl ?_
      exact go_zret dX4_isWater_23 rfl (by decide) vc rfl (Nat.le_refl _) (Nat.le_refl _)
set_option maxRecDepth 20000 in
theorem wX4_isHarbour_0 {p : Program} {l : Launch} {e : Env} {s : State} {m : MethodId} {args : Array Value} {below : List Frame} {meth : Method} {c : Code} {G : gG} {d : Nat} {Q : Option Value → gH → Prop} {h : gH} {lk sp : Nat} {cd : Option Nat} {b : Nat} {a1 : Int32} (hR : h.2.2 = gRF lk sp cd) (hlk : lk = 30 ∨ lk = 67) (hsp : sp = 30 ∨ sp = 67) (hb : b = 30 ∨ b = 67) (vc : gC l G d MX4_isCell [.ref b, .int a1] h (rI fun v1 h1 => h1.2.2 = (h).2.2 ∧ ((v1 = 0 → Q (some (.int 0)) h1) ∧ (¬ v1 = 0 → (vp_in a1 48 ∧ ((¬ (h1.1 (b + 1) a1.toNatClampNeg) = 0 → Q (some (.int 0)) h1) ∧ ((h1.1 (b + 1) a1.toNatClampNeg) = 0 → Q (some (.int 1)) h1))))))) : gg p l e s m args below meth c G (d + 1) MX4_isHarbour Q 0 [some (.ref b), some (.int a1)] [] h := by
  refine go_aload_n (x := b) dX4_isHarbour_0 rfl ?_
  refine go_iload_n (x := a1) dX4_isHarbour_1 rfl ?_
  refine gvI1 MX4_isCell dX4_isHarbour_2 lX4_86 kX4_isCell vX4_isCell (slx hb) (by decide) rfl (Nat.le_of_ble_eq_true rfl) vc ?_
  intro v1 h1 vc
  obtain ⟨hR1, vc⟩ := vc
  replace hR := hR1.trans hR
  refine go_if_eq 21 dX4_isHarbour_5 rfl (fun q => ?_) (fun q => ?_)
  · replace vc := vc.1 q
    refine go_iconst (v := 0) dX4_isHarbour_21 rfl ?_
    exact go_zret dX4_isHarbour_22 rfl (by decide) vc rfl (Nat.le_refl _) (Nat.le_refl _)
  · replace vc := vc.2 q
    refine go_aload_n (x := b) dX4_isHarbour_8 rfl ?_
    refine go_getR (x := (b + 1)) dX4_isHarbour_9 f4_9 (slx hb) (fun _ _ => rfl) (rl_s hR hb (by decide)) ?_
    refine go_iload_n (x := a1) dX4_isHarbour_12 rfl ?_
    refine go_iald' (v := (h1.1 (b + 1) a1.toNatClampNeg)) dX4_isHarbour_13 (sl1 hb) vc.1 rfl ?_
    have vc := vc.2
    refine go_if_ne 21 dX4_isHarbour_14 rfl (fun q => ?_) (fun q => ?_)
    · replace vc := vc.1 q
      refine go_iconst (v := 0) dX4_isHarbour_21 rfl ?_
      exact go_zret dX4_isHarbour_22 rfl (by decide) vc rfl (Nat.le_refl _) (Nat.le_refl _)
    · replace vc := vc.2 q
      refine go_iconst (v := 1) dX4_isHarbour_17 rfl ?_
      refine go_goto 22 dX4_isHarbour_18 rfl ?_
      exact go_zret dX4_isHarbour_22 rfl (by decide) vc rfl (Nat.le_refl _) (Nat.le_refl _)
set_option maxRecDepth 20000 in
theorem wX4_isBoat_0 {p : Program} {l : Launch} {e : Env} {s : State} {m : MethodId} {args : Array Value} {below : List Frame} {meth : Method} {c : Code} {G : gG} {d : Nat} {Q : Option Value → gH → Prop} {h : gH} {lk sp : Nat} {cd : Option Nat} {b : Nat} {a1 : Int32} (hR : h.2.2 = gRF lk sp cd) (hlk : lk = 30 ∨ lk = 67) (hsp : sp = 30 ∨ sp = 67) (hb : b = 30 ∨ b = 67) (vc : ((a1 < 0 → Q (some (.int 0)) h) ∧ (¬ a1 < 0 → (((h.1 b 13) ≤ a1 → Q (some (.int 0)) h) ∧ (¬ (h.1 b 13) ≤ a1 → ((6 ≤ a1 → Q (some (.int 0)) h) ∧ (¬ 6 ≤ a1 → Q (some (.int 1)) h))))))) : gg p l e s m args below meth c G d MX4_isBoat Q 0 [some (.ref b), some (.int a1)] [] h := by
  refine go_iload_n (x := a1) dX4_isBoat_0 rfl ?_
  refine go_if_lt 22 dX4_isBoat_1 rfl (fun q => ?_) (fun q => ?_)
  · replace vc := vc.1 q
    refine go_iconst (v := 0) dX4_isBoat_22 rfl ?_
    exact go_zret dX4_isBoat_23 rfl (by decide) vc rfl (Nat.le_refl _) (Nat.le_refl _)
  · replace vc := vc.2 q
    refine go_iload_n (x := a1) dX4_isBoat_4 rfl ?_
    refine go_aload_n (x := b) dX4_isBoat_5 rfl ?_
    refine go_getI' (v := (h.1 b 13)) dX4_isBoat_6 f4_59 (slx hb) (fun _ _ => rfl) rfl ?_
    refine go_icmp_ge 22 dX4_isBoat_9 rfl (fun q => ?_) (fun q => ?_)
    · replace vc := vc.1 q
      refine go_iconst (v := 0) dX4_isBoat_22 rfl ?_
      exact go_zret dX4_isBoat_23 rfl (by decide) vc rfl (Nat.le_refl _) (Nat.le_refl _)
    · replace vc := vc.2 q
      refine go_iload_n (x := a1) dX4_isBoat_12 rfl ?_
      refine go_bipush (v := 6) dX4_isBoat_13 rfl ?_
      refine go_icmp_ge 22 dX4_isBoat_15 rfl (fun q => ?_) (fun q => ?_)
      · replace vc := vc.1 q
        refine go_iconst (v := 0) dX4_isBoat_22 rfl ?_
        exact go_zret dX4_isBoat_23 rfl (by decide) vc rfl (Nat.le_refl _) (Nat.le_refl _)
      · replace vc := vc.2 q
        refine go_iconst (v := 1) dX4_isBoat_18 rfl ?_
        refine go_goto 23 dX4_isBoat_19 rfl ?_
        exact go_zret dX4_isBoat_23 rfl (by decide) vc rfl (Nat.le_refl _) (Nat.le_refl _)
set_option maxRecDepth 20000 in
theorem wX4_isHand_0 {p : Program} {l : Launch} {e : Env} {s : State} {m : MethodId} {args : Array Value} {below : List Frame} {meth : Method} {c : Code} {G : gG} {d : Nat} {Q : Option Value → gH → Prop} {h : gH} {lk sp : Nat} {cd : Option Nat} {b : Nat} {a1 : Int32} (hR : h.2.2 = gRF lk sp cd) (hlk : lk = 30 ∨ lk = 67) (hsp : sp = 30 ∨ sp = 67) (hb : b = 30 ∨ b = 67) (vc : ((a1 < 0 → Q (some (.int 0)) h) ∧ (¬ a1 < 0 → (((h.1 b 14) ≤ a1 → Q (some (.int 0)) h) ∧ (¬ (h.1 b 14) ≤ a1 → ((6 ≤ a1 → Q (some (.int 0)) h) ∧ (¬ 6 ≤ a1 → Q (some (.int 1)) h))))))) : gg p l e s m args below meth c G d MX4_isHand Q 0 [some (.ref b), some (.int a1)] [] h := by
  refine go_iload_n (x := a1) dX4_isHand_0 rfl ?_
  refine go_if_lt 22 dX4_isHand_1 rfl (fun q => ?_) (fun q => ?_)
  · replace vc := vc.1 q
    refine go_iconst (v := 0) dX4_isHand_22 rfl ?_
    exact go_zret dX4_isHand_23 rfl (by decide) vc rfl (Nat.le_refl _) (Nat.le_refl _)
  · replace vc := vc.2 q
    refine go_iload_n (x := a1) dX4_isHand_4 rfl ?_
    refine go_aload_n (x := b) dX4_isHand_5 rfl ?_
    refine go_getI' (v := (h.1 b 14)) dX4_isHand_6 f4_62 (slx hb) (fun _ _ => rfl) rfl ?_
    refine go_icmp_ge 22 dX4_isHand_9 rfl (fun q => ?_) (fun q => ?_)
    · replace vc := vc.1 q
      refine go_iconst (v := 0) dX4_isHand_22 rfl ?_
      exact go_zret dX4_isHand_23 rfl (by decide) vc rfl (Nat.le_refl _) (Nat.le_refl _)
    · replace vc := vc.2 q
      refine go_iload_n (x := a1) dX4_isHand_12 rfl ?_
      refine go_bipush (v := 6) dX4_isHand_13 rfl ?_
      refine go_icmp_ge 22 dX4_isHand_15 rfl (fun q => ?_) (fun q => ?_)
      · replace vc := vc.1 q
        refine go_iconst (v := 0) dX4_isHand_22 rfl ?_
        exact go_zret dX4_isHand_23 rfl (by decide) vc rfl (Nat.le_refl _) (Nat.le_refl _)
      · replace vc := vc.2 q
        refine go_iconst (v := 1) dX4_isHand_18 rfl ?_
        refine go_goto 23 dX4_isHand_19 rfl ?_
        exact go_zret dX4_isHand_23 rfl (by decide) vc rfl (Nat.le_refl _) (Nat.le_refl _)
set_option maxRecDepth 20000 in
theorem wX4_depthOf_0 {p : Program} {l : Launch} {e : Env} {s : State} {m : MethodId} {args : Array Value} {below : List Frame} {meth : Method} {c : Code} {G : gG} {d : Nat} {Q : Option Value → gH → Prop} {h : gH} {lk sp : Nat} {cd : Option Nat} {b : Nat} {a1 : Int32} (hR : h.2.2 = gRF lk sp cd) (hlk : lk = 30 ∨ lk = 67) (hsp : sp = 30 ∨ sp = 67) (hb : b = 30 ∨ b = 67) (vc : gC l G d MX4_isWater [.ref b, .int a1] h (rI fun v1 h1 => h1.2.2 = (h).2.2 ∧ ((v1 = 0 → Q (some (.int 0)) h1) ∧ (¬ v1 = 0 → (vp_in a1 48 ∧ Q (some (.int (if (h1.1 (b + 1) a1.toNatClampNeg) < 2 then (h1.1 (b + 1) a1.toNatClampNeg) else 2))) h1))))) : gg p l e s m args below meth c G (d + 1) MX4_depthOf Q 0 [some (.ref b), some (.int a1)] [] h := by
  refine go_aload_n (x := b) dX4_depthOf_0 rfl ?_
  refine go_iload_n (x := a1) dX4_depthOf_1 rfl ?_
  refine gvI1 MX4_isWater dX4_depthOf_2 lX4_90 kX4_isWater vX4_isWater (slx hb) (by decide) rfl (Nat.le_of_ble_eq_true rfl) vc ?_
  intro v1 h1 vc
  obtain ⟨hR1, vc⟩ := vc
  replace hR := hR1.trans hR
  refine go_if_eq 21 dX4_depthOf_5 rfl (fun q => ?_) (fun q => ?_)
  · replace vc := vc.1 q
    refine go_iconst (v := 0) dX4_depthOf_21 rfl ?_
    exact go_iret dX4_depthOf_22 rfl vc rfl (Nat.le_refl _) (Nat.le_refl _)
  · replace vc := vc.2 q
    refine go_iconst (v := 2) dX4_depthOf_8 rfl ?_
    refine go_aload_n (x := b) dX4_depthOf_9 rfl ?_
    refine go_getR (x := (b + 1)) dX4_depthOf_10 f4_9 (slx hb) (fun _ _ => rfl) (rl_s hR hb (by decide)) ?_
    refine go_iload_n (x := a1) dX4_depthOf_13 rfl ?_
    refine go_iald' (v := (h1.1 (b + 1) a1.toNatClampNeg)) dX4_depthOf_14 (sl1 hb) vc.1 rfl ?_
    have vc := vc.2
    refine go_min dX4_depthOf_15 lX4_80 (Nat.le_of_ble_eq_true rfl) ?_
    refine go_goto 22 dX4_depthOf_18 rfl ?_
    exact go_iret dX4_depthOf_22 rfl vc rfl (Nat.le_refl _) (Nat.le_refl _)
set_option maxRecDepth 20000 in
theorem wX4_wreckIn_0 {p : Program} {l : Launch} {e : Env} {s : State} {m : MethodId} {args : Array Value} {below : List Frame} {meth : Method} {c : Code} {G : gG} {d : Nat} {Q : Option Value → gH → Prop} {h : gH} {lk sp : Nat} {cd : Option Nat} {b : Nat} {a1 : Int32} (hR : h.2.2 = gRF lk sp cd) (hlk : lk = 30 ∨ lk = 67) (hsp : sp = 30 ∨ sp = 67) (hb : b = 30 ∨ b = 67) (vc : gC l G d MX4_isCell [.ref b, .int a1] h (rI fun v1 h1 => h1.2.2 = (h).2.2 ∧ ((v1 = 0 → Q (some (.int 0)) h1) ∧ (¬ v1 = 0 → (vp_in a1 48 ∧ ((¬ (h1.1 (b + 1) a1.toNatClampNeg) = 3 → Q (some (.int 0)) h1) ∧ ((h1.1 (b + 1) a1.toNatClampNeg) = 3 → Q (some (.int 1)) h1))))))) : gg p l e s m args below meth c G (d + 1) MX4_wreckIn Q 0 [some (.ref b), some (.int a1)] [] h := by
  refine go_aload_n (x := b) dX4_wreckIn_0 rfl ?_
  refine go_iload_n (x := a1) dX4_wreckIn_1 rfl ?_
  refine gvI1 MX4_isCell dX4_wreckIn_2 lX4_86 kX4_isCell vX4_isCell (slx hb) (by decide) rfl (Nat.le_of_ble_eq_true rfl) vc ?_
  intro v1 h1 vc
  obtain ⟨hR1, vc⟩ := vc
  replace hR := hR1.trans hR
  refine go_if_eq 22 dX4_wreckIn_5 rfl (fun q => ?_) (fun q => ?_)
  · replace vc := vc.1 q
    refine go_iconst (v := 0) dX4_wreckIn_22 rfl ?_
    exact go_iret dX4_wreckIn_23 rfl vc rfl (Nat.le_refl _) (Nat.le_refl _)
  · replace vc := vc.2 q
    refine go_aload_n (x := b) dX4_wreckIn_8 rfl ?_
    refine go_getR (x := (b + 1)) dX4_wreckIn_9 f4_9 (slx hb) (fun _ _ => rfl) (rl_s hR hb (by decide)) ?_
    refine go_iload_n (x := a1) dX4_wreckIn_12 rfl ?_
    refine go_iald' (v := (h1.1 (b + 1) a1.toNatClampNeg)) dX4_wreckIn_13 (sl1 hb) vc.1 rfl ?_
    have vc := vc.2
    refine go_iconst (v := 3) dX4_wreckIn_14 rfl ?_
    refine go_icmp_ne 22 dX4_wreckIn_15 rfl (fun q => ?_) (fun q => ?_)
    · replace vc := vc.1 q
      refine go_iconst (v := 0) dX4_wreckIn_22 rfl ?_
      exact go_iret dX4_wreckIn_23 rfl vc rfl (Nat.le_refl _) (Nat.le_refl _)
    · replace vc := vc.2 q
      refine go_iconst (v := 1) dX4_wreckIn_18 rfl ?_
      refine go_goto 23 dX4_wreckIn_19 rfl ?_
      exact go_iret dX4_wreckIn_23 rfl vc rfl (Nat.le_refl _) (Nat.le_refl _)
set_option maxRecDepth 20000 in
theorem wX4_homeOf_0 {p : Program} {l : Launch} {e : Env} {s : State} {m : MethodId} {args : Array Value} {below : List Frame} {meth : Method} {c : Code} {G : gG} {d : Nat} {Q : Option Value → gH → Prop} {h : gH} {lk sp : Nat} {cd : Option Nat} {b : Nat} {a1 : Int32} (hR : h.2.2 = gRF lk sp cd) (hlk : lk = 30 ∨ lk = 67) (hsp : sp = 30 ∨ sp = 67) (hb : b = 30 ∨ b = 67) (vc : gC l G d MX4_isCell [.ref b, .int a1] h (rI fun v1 h1 => h1.2.2 = (h).2.2 ∧ ((v1 = 0 → Q (some (.int 99)) h1) ∧ (¬ v1 = 0 → (vp_in a1 48 ∧ Q (some (.int (h1.1 (b + 2) a1.toNatClampNeg))) h1))))) : gg p l e s m args below meth c G (d + 1) MX4_homeOf Q 0 [some (.ref b), some (.int a1)] [] h := by
  refine go_aload_n (x := b) dX4_homeOf_0 rfl ?_
  refine go_iload_n (x := a1) dX4_homeOf_1 rfl ?_
  refine gvI1 MX4_isCell dX4_homeOf_2 lX4_86 kX4_isCell vX4_isCell (slx hb) (by decide) rfl (Nat.le_of_ble_eq_true rfl) vc ?_
  intro v1 h1 vc
  obtain ⟨hR1, vc⟩ := vc
  replace hR := hR1.trans hR
  refine go_if_eq 17 dX4_homeOf_5 rfl (fun q => ?_) (fun q => ?_)
  · replace vc := vc.1 q
    refine go_bipush (v := 99) dX4_homeOf_17 rfl ?_
    exact go_iret dX4_homeOf_19 rfl vc rfl (Nat.le_refl _) (Nat.le_refl _)
  · replace vc := vc.2 q
    refine go_aload_n (x := b) dX4_homeOf_8 rfl ?_
    refine go_getR (x := (b + 2)) dX4_homeOf_9 f4_15 (slx hb) (fun _ _ => rfl) (rl_s hR hb (by decide)) ?_
    refine go_iload_n (x := a1) dX4_homeOf_12 rfl ?_
    refine go_iald' (v := (h1.1 (b + 2) a1.toNatClampNeg)) dX4_homeOf_13 (sl2 hb) vc.1 rfl ?_
    have vc := vc.2
    refine go_goto 19 dX4_homeOf_14 rfl ?_
    exact go_iret dX4_homeOf_19 rfl vc rfl (Nat.le_refl _) (Nat.le_refl _)
set_option maxRecDepth 20000 in
theorem wX4_skillOf_0 {p : Program} {l : Launch} {e : Env} {s : State} {m : MethodId} {args : Array Value} {below : List Frame} {meth : Method} {c : Code} {G : gG} {d : Nat} {Q : Option Value → gH → Prop} {h : gH} {lk sp : Nat} {cd : Option Nat} {b : Nat} {a1 : Int32} (hR : h.2.2 = gRF lk sp cd) (hlk : lk = 30 ∨ lk = 67) (hsp : sp = 30 ∨ sp = 67) (hb : b = 30 ∨ b = 67) (vc : gC l G d MX4_isHand [.ref b, .int a1] h (rI fun v1 h1 => h1.2.2 = (h).2.2 ∧ ((v1 = 0 → Q (some (.int 0)) h1) ∧ (¬ v1 = 0 → (vp_in a1 6 ∧ Q (some (.int (h1.1 (b + 7) a1.toNatClampNeg))) h1))))) : gg p l e s m args below meth c G (d + 1) MX4_skillOf Q 0 [some (.ref b), some (.int a1)] [] h := by
  refine go_aload_n (x := b) dX4_skillOf_0 rfl ?_
  refine go_iload_n (x := a1) dX4_skillOf_1 rfl ?_
  refine gvI1 MX4_isHand dX4_skillOf_2 lX4_93 kX4_isHand vX4_isHand (slx hb) (by decide) rfl (Nat.le_of_ble_eq_true rfl) vc ?_
  intro v1 h1 vc
  obtain ⟨hR1, vc⟩ := vc
  replace hR := hR1.trans hR
  refine go_if_eq 17 dX4_skillOf_5 rfl (fun q => ?_) (fun q => ?_)
  · replace vc := vc.1 q
    refine go_iconst (v := 0) dX4_skillOf_17 rfl ?_
    exact go_iret dX4_skillOf_18 rfl vc rfl (Nat.le_refl _) (Nat.le_refl _)
  · replace vc := vc.2 q
    refine go_aload_n (x := b) dX4_skillOf_8 rfl ?_
    refine go_getR (x := (b + 7)) dX4_skillOf_9 f4_30 (slx hb) (fun _ _ => rfl) (rl_s hR hb (by decide)) ?_
    refine go_iload_n (x := a1) dX4_skillOf_12 rfl ?_
    refine go_iald' (v := (h1.1 (b + 7) a1.toNatClampNeg)) dX4_skillOf_13 (sl7 hb) vc.1 rfl ?_
    have vc := vc.2
    refine go_goto 18 dX4_skillOf_14 rfl ?_
    exact go_iret dX4_skillOf_18 rfl vc rfl (Nat.le_refl _) (Nat.le_refl _)
set_option maxRecDepth 20000 in
theorem wX4_likingOf_0 {p : Program} {l : Launch} {e : Env} {s : State} {m : MethodId} {args : Array Value} {below : List Frame} {meth : Method} {c : Code} {G : gG} {d : Nat} {Q : Option Value → gH → Prop} {h : gH} {lk sp : Nat} {cd : Option Nat} {b : Nat} {a1 : Int32} {a2 : Int32} (hR : h.2.2 = gRF lk sp cd) (hlk : lk = 30 ∨ lk = 67) (hsp : sp = 30 ∨ sp = 67) (hb : b = 30 ∨ b = 67) (vc : gC l G d MX4_isBoat [.ref b, .int a1] h (rI fun v1 h1 => h1.2.2 = (h).2.2 ∧ ((v1 = 0 → Q (some (.int 0)) h1) ∧ (¬ v1 = 0 → gC l G d MX4_isHand [.ref b, .int a2] h1 (rI fun v2 h2 => h2.2.2 = (h1).2.2 ∧ ((v2 = 0 → Q (some (.int 0)) h2) ∧ (¬ v2 = 0 → (vp_in (((a1 * 6) + a2)) 36 ∧ Q (some (.int (h2.1 (b + 8) (((a1 * 6) + a2) : Int32).toNatClampNeg))) h2)))))))) : gg p l e s m args below meth c G (d + 1) MX4_likingOf Q 0 [some (.ref b), some (.int a1), some (.int a2)] [] h := by
  refine go_aload_n (x := b) dX4_likingOf_0 rfl ?_
  refine go_iload_n (x := a1) dX4_likingOf_1 rfl ?_
  refine gvI1 MX4_isBoat dX4_likingOf_2 lX4_96 kX4_isBoat vX4_isBoat (slx hb) (by decide) rfl (Nat.le_of_ble_eq_true rfl) vc ?_
  intro v1 h1 vc
  obtain ⟨hR1, vc⟩ := vc
  replace hR := hR1.trans hR
  refine go_if_eq 30 dX4_likingOf_5 rfl (fun q => ?_) (fun q => ?_)
  · replace vc := vc.1 q
    refine go_iconst (v := 0) dX4_likingOf_30 rfl ?_
    exact go_iret dX4_likingOf_31 rfl vc rfl (Nat.le_refl _) (Nat.le_refl _)
  · replace vc := vc.2 q
    refine go_aload_n (x := b) dX4_likingOf_8 rfl ?_
    refine go_iload_n (x := a2) dX4_likingOf_9 rfl ?_
    refine gvI1 MX4_isHand dX4_likingOf_10 lX4_93 kX4_isHand vX4_isHand (slx hb) (by decide) rfl (Nat.le_of_ble_eq_true rfl) vc ?_
    intro v2 h2 vc
    obtain ⟨hR2, vc⟩ := vc
    replace hR := hR2.trans hR
    refine go_if_eq 30 dX4_likingOf_13 rfl (fun q => ?_) (fun q => ?_)
    · replace vc := vc.1 q
      refine go_iconst (v := 0) dX4_likingOf_30 rfl ?_
      exact go_iret dX4_likingOf_31 rfl vc rfl (Nat.le_refl _) (Nat.le_refl _)
    · replace vc := vc.2 q
      refine go_aload_n (x := b) dX4_likingOf_16 rfl ?_
      refine go_getR (x := (b + 8)) dX4_likingOf_17 f4_33 (slx hb) (fun _ _ => rfl) (rl_s hR hb (by decide)) ?_
      refine go_iload_n (x := a1) dX4_likingOf_20 rfl ?_
      refine go_bipush (v := 6) dX4_likingOf_21 rfl ?_
      refine go_imul dX4_likingOf_23 ?_
      refine go_iload_n (x := a2) dX4_likingOf_24 rfl ?_
      refine go_iadd dX4_likingOf_25 ?_
      refine go_iald' (v := (h2.1 (b + 8) (((a1 * 6) + a2) : Int32).toNatClampNeg)) dX4_likingOf_26 (sl8 hb) vc.1 rfl ?_
      have vc := vc.2
      refine go_goto 31 dX4_likingOf_27 rfl ?_
      exact go_iret dX4_likingOf_31 rfl vc rfl (Nat.le_refl _) (Nat.le_refl _)
set_option maxRecDepth 20000 in
theorem wX4_skyAt_0 {p : Program} {l : Launch} {e : Env} {s : State} {m : MethodId} {args : Array Value} {below : List Frame} {meth : Method} {c : Code} {G : gG} {d : Nat} {Q : Option Value → gH → Prop} {h : gH} {lk sp : Nat} {cd : Option Nat} {b : Nat} {a1 : Int32} (hR : h.2.2 = gRF lk sp cd) (hlk : lk = 30 ∨ lk = 67) (hsp : sp = 30 ∨ sp = 67) (hb : b = 30 ∨ b = 67) (vc : gg p l e s m args below meth c G d MX4_skyAt Q 7 [some (.ref b), some (.int a1), some (.int (-1)), some (.int 0), some (.int 0)] [] h) : gg p l e s m args below meth c G d MX4_skyAt Q 0 [some (.ref b), some (.int a1), none, none, none] [] h := by
  refine go_iconst (v := (-1)) dX4_skyAt_0 rfl ?_
  refine go_istore_n dX4_skyAt_1 (Nat.le_of_ble_eq_true rfl) ?_
  show gg p l e s m args below meth c G d MX4_skyAt Q 2 [some (.ref b), some (.int a1), some (.int (-1)), none, none] [] h
  refine go_iconst (v := 0) dX4_skyAt_2 rfl ?_
  refine go_istore_n dX4_skyAt_3 (Nat.le_of_ble_eq_true rfl) ?_
  show gg p l e s m args below meth c G d MX4_skyAt Q 4 [some (.ref b), some (.int a1), some (.int (-1)), some (.int 0), none] [] h
  refine go_iconst (v := 0) dX4_skyAt_4 rfl ?_
  refine go_istore dX4_skyAt_5 (Nat.le_of_ble_eq_true rfl) ?_
  show gg p l e s m args below meth c G d MX4_skyAt Q 7 [some (.ref b), some (.int a1), some (.int (-1)), some (.int 0), some (.int 0)] [] h
  exact vc
set_option maxRecDepth 20000 in
theorem wX4_skyAt_7 {p : Program} {l : Launch} {e : Env} {s : State} {m : MethodId} {args : Array Value} {below : List Frame} {meth : Method} {c : Code} {G : gG} {d : Nat} {Q : Option Value → gH → Prop} {h : gH} {lk sp : Nat} {cd : Option Nat} {b : Nat} {x1 : Int32} {x2 : Int32} {x3 : Int32} {x4 : Int32} (hR : h.2.2 = gRF lk sp cd) (hlk : lk = 30 ∨ lk = 67) (hsp : sp = 30 ∨ sp = 67) (hb : b = 30 ∨ b = 67) (vc : (((h.1 b 15) ≤ x4 → Q (some (.int x3)) h) ∧ (¬ (h.1 b 15) ≤ x4 → ((10 ≤ x4 → Q (some (.int x3)) h) ∧ (¬ 10 ≤ x4 → (vp_in x4 10 ∧ ((x1 < (h.1 (b + 9) x4.toNatClampNeg) → gg p l e s m args below meth c G d MX4_skyAt Q 7 [some (.ref b), some (.int x1), some (.int x2), some (.int x3), some (.int (x4 + 1))] [] h) ∧ (¬ x1 < (h.1 (b + 9) x4.toNatClampNeg) → (vp_in x4 10 ∧ (((h.1 (b + 9) x4.toNatClampNeg) ≤ x2 → gg p l e s m args below meth c G d MX4_skyAt Q 7 [some (.ref b), some (.int x1), some (.int x2), some (.int x3), some (.int (x4 + 1))] [] h) ∧ (¬ (h.1 (b + 9) x4.toNatClampNeg) ≤ x2 → (vp_in x4 10 ∧ (vp_in x4 10 ∧ gg p l e s m args below meth c G d MX4_skyAt Q 7 [some (.ref b), some (.int x1), some (.int (h.1 (b + 9) x4.toNatClampNeg)), some (.int (h.1 (b + 10) x4.toNatClampNeg)), some (.int (x4 + 1))] [] h))))))))))))) : gg p l e s m args below meth c G d MX4_skyAt Q 7 [some (.ref b), some (.int x1), some (.int x2), some (.int x3), some (.int x4)] [] h := by
  refine go_iload (x := x4) dX4_skyAt_7 rfl ?_
  refine go_aload_n (x := b) dX4_skyAt_9 rfl ?_
  refine go_getI' (v := (h.1 b 15)) dX4_skyAt_10 f4_65 (slx hb) (fun _ _ => rfl) rfl ?_
  refine go_icmp_ge 67 dX4_skyAt_13 rfl (fun q => ?_) (fun q => ?_)
  · replace vc := vc.1 q
    refine go_iload_n (x := x3) dX4_skyAt_67 rfl ?_
    exact go_iret dX4_skyAt_68 rfl vc rfl (Nat.le_refl _) (Nat.le_refl _)
  · replace vc := vc.2 q
    refine go_iload (x := x4) dX4_skyAt_16 rfl ?_
    refine go_bipush (v := 10) dX4_skyAt_18 rfl ?_
    refine go_icmp_ge 67 dX4_skyAt_20 rfl (fun q => ?_) (fun q => ?_)
    · replace vc := vc.1 q
      refine go_iload_n (x := x3) dX4_skyAt_67 rfl ?_
      exact go_iret dX4_skyAt_68 rfl vc rfl (Nat.le_refl _) (Nat.le_refl _)
    · replace vc := vc.2 q
      refine go_aload_n (x := b) dX4_skyAt_23 rfl ?_
      refine go_getR (x := (b + 9)) dX4_skyAt_24 f4_36 (slx hb) (fun _ _ => rfl) (rl_s hR hb (by decide)) ?_
      refine go_iload (x := x4) dX4_skyAt_27 rfl ?_
      refine go_iald' (v := (h.1 (b + 9) x4.toNatClampNeg)) dX4_skyAt_29 (sl9 hb) vc.1 rfl ?_
      have vc := vc.2
      refine go_iload_n (x := x1) dX4_skyAt_30 rfl ?_
      refine go_icmp_gt 61 dX4_skyAt_31 rfl (fun q => ?_) (fun q => ?_)
      · replace vc := vc.1 q
        refine go_iinc (x := x4) dX4_skyAt_61 rfl ?_
        show gg p l e s m args below meth c G d MX4_skyAt Q 64 [some (.ref b), some (.int x1), some (.int x2), some (.int x3), some (.int (x4 + 1))] [] h
        refine go_goto 7 dX4_skyAt_64 rfl ?_
        exact vc
      · replace vc := vc.2 q
        refine go_aload_n (x := b) dX4_skyAt_34 rfl ?_
        refine go_getR (x := (b + 9)) dX4_skyAt_35 f4_36 (slx hb) (fun _ _ => rfl) (rl_s hR hb (by decide)) ?_
        refine go_iload (x := x4) dX4_skyAt_38 rfl ?_
        refine go_iald' (v := (h.1 (b + 9) x4.toNatClampNeg)) dX4_skyAt_40 (sl9 hb) vc.1 rfl ?_
        have vc := vc.2
        refine go_iload_n (x := x2) dX4_skyAt_41 rfl ?_
        refine go_icmp_le 61 dX4_skyAt_42 rfl (fun q => ?_) (fun q => ?_)
        · replace vc := vc.1 q
          refine go_iinc (x := x4) dX4_skyAt_61 rfl ?_
          show gg p l e s m args below meth c G d MX4_skyAt Q 64 [some (.ref b), some (.int x1), some (.int x2), some (.int x3), some (.int (x4 + 1))] [] h
          refine go_goto 7 dX4_skyAt_64 rfl ?_
          exact vc
        · replace vc := vc.2 q
          refine go_aload_n (x := b) dX4_skyAt_45 rfl ?_
          refine go_getR (x := (b + 9)) dX4_skyAt_46 f4_36 (slx hb) (fun _ _ => rfl) (rl_s hR hb (by decide)) ?_
          refine go_iload (x := x4) dX4_skyAt_49 rfl ?_
          refine go_iald' (v := (h.1 (b + 9) x4.toNatClampNeg)) dX4_skyAt_51 (sl9 hb) vc.1 rfl ?_
          have vc := vc.2
          refine go_istore_n dX4_skyAt_52 (Nat.le_of_ble_eq_true rfl) ?_
          show gg p l e s m args below meth c G d MX4_skyAt Q 53 [some (.ref b), some (.int x1), some (.int (h.1 (b + 9) x4.toNatClampNeg)), some (.int x3), some (.int x4)] [] h
          refine go_aload_n (x := b) dX4_skyAt_53 rfl ?_
          refine go_getR (x := (b + 10)) dX4_skyAt_54 f4_39 (slx hb) (fun _ _ => rfl) (rl_s hR hb (by decide)) ?_
          refine go_iload (x := x4) dX4_skyAt_57 rfl ?_
          refine go_iald' (v := (h.1 (b + 10) x4.toNatClampNeg)) dX4_skyAt_59 (sl10 hb) vc.1 rfl ?_
          have vc := vc.2
          refine go_istore_n dX4_skyAt_60 (Nat.le_of_ble_eq_true rfl) ?_
          show gg p l e s m args below meth c G d MX4_skyAt Q 61 [some (.ref b), some (.int x1), some (.int (h.1 (b + 9) x4.toNatClampNeg)), some (.int (h.1 (b + 10) x4.toNatClampNeg)), some (.int x4)] [] h
          refine go_iinc (x := x4) dX4_skyAt_61 rfl ?_
          show gg p l e s m args below meth c G d MX4_skyAt Q 64 [some (.ref b), some (.int x1), some (.int (h.1 (b + 9) x4.toNatClampNeg)), some (.int (h.1 (b + 10) x4.toNatClampNeg)), some (.int (x4 + 1))] [] h
          refine go_goto 7 dX4_skyAt_64 rfl ?_
          exact vc
set_option maxRecDepth 20000 in
theorem wX4_stepFrom_0 {p : Program} {l : Launch} {e : Env} {s : State} {m : MethodId} {args : Array Value} {below : List Frame} {meth : Method} {c : Code} {G : gG} {d : Nat} {Q : Option Value → gH → Prop} {h : gH} {lk sp : Nat} {cd : Option Nat} {b : Nat} {a1 : Int32} {a2 : Int32} (hR : h.2.2 = gRF lk sp cd) (hlk : lk = 30 ∨ lk = 67) (hsp : sp = 30 ∨ sp = 67) (hb : b = 30 ∨ b = 67) (vc : gC l G d MX4_isCell [.ref b, .int a1] h (rI fun v1 h1 => h1.2.2 = (h).2.2 ∧ ((v1 = 0 → Q (some (.int (-1))) h1) ∧ (¬ v1 = 0 → ((1 ≤ (h1.1 b 11) → (¬ (h1.1 b 11) = 0 ∧ ((a2 = 0 → gC l G d MX4_isWater [.ref b, .int (a1 - (h1.1 b 11))] h1 (rI fun v2 h2 => h2.2.2 = (h1).2.2 ∧ ((v2 = 0 → Q (some (.int (-1))) h2) ∧ (¬ v2 = 0 → Q (some (.int (a1 - (h1.1 b 11)))) h2)))) ∧ (a2 = 1 → (((h1.1 b 11) ≤ ((a1 - a1 / (h1.1 b 11) * (h1.1 b 11)) + 1) → gC l G d MX4_isWater [.ref b, .int (-1)] h1 (rI fun v3 h3 => h3.2.2 = (h1).2.2 ∧ ((v3 = 0 → Q (some (.int (-1))) h3) ∧ (¬ v3 = 0 → Q (some (.int (-1))) h3)))) ∧ (¬ (h1.1 b 11) ≤ ((a1 - a1 / (h1.1 b 11) * (h1.1 b 11)) + 1) → gC l G d MX4_isWater [.ref b, .int (a1 + 1)] h1 (rI fun v4 h4 => h4.2.2 = (h1).2.2 ∧ ((v4 = 0 → Q (some (.int (-1))) h4) ∧ (¬ v4 = 0 → Q (some (.int (a1 + 1))) h4)))))) ∧ (a2 = 2 → gC l G d MX4_isWater [.ref b, .int (a1 + (h1.1 b 11))] h1 (rI fun v5 h5 => h5.2.2 = (h1).2.2 ∧ ((v5 = 0 → Q (some (.int (-1))) h5) ∧ (¬ v5 = 0 → Q (some (.int (a1 + (h1.1 b 11)))) h5)))) ∧ (a2 = 3 → (((a1 - a1 / (h1.1 b 11) * (h1.1 b 11)) ≤ 0 → gC l G d MX4_isWater [.ref b, .int (-1)] h1 (rI fun v6 h6 => h6.2.2 = (h1).2.2 ∧ ((v6 = 0 → Q (some (.int (-1))) h6) ∧ (¬ v6 = 0 → Q (some (.int (-1))) h6)))) ∧ (¬ (a1 - a1 / (h1.1 b 11) * (h1.1 b 11)) ≤ 0 → gC l G d MX4_isWater [.ref b, .int (a1 - 1)] h1 (rI fun v7 h7 => h7.2.2 = (h1).2.2 ∧ ((v7 = 0 → Q (some (.int (-1))) h7) ∧ (¬ v7 = 0 → Q (some (.int (a1 - 1))) h7)))))) ∧ (¬ a2 = 0 → ¬ a2 = 1 → ¬ a2 = 2 → ¬ a2 = 3 → gC l G d MX4_isWater [.ref b, .int (-1)] h1 (rI fun v8 h8 => h8.2.2 = (h1).2.2 ∧ ((v8 = 0 → Q (some (.int (-1))) h8) ∧ (¬ v8 = 0 → Q (some (.int (-1))) h8))))))) ∧ (¬ 1 ≤ (h1.1 b 11) → Q (some (.int (-1))) h1)))))) : gg p l e s m args below meth c G (d + 1) MX4_stepFrom Q 0 [some (.ref b), some (.int a1), some (.int a2), none, none] [] h := by
  refine go_aload_n (x := b) dX4_stepFrom_0 rfl ?_
  refine go_iload_n (x := a1) dX4_stepFrom_1 rfl ?_
  refine gvI1 MX4_isCell dX4_stepFrom_2 lX4_86 kX4_isCell vX4_isCell (slx hb) (by decide) rfl (Nat.le_of_ble_eq_true rfl) vc ?_
  intro v1 h1 vc
  obtain ⟨hR1, vc⟩ := vc
  replace hR := hR1.trans hR
  refine go_if_eq 16 dX4_stepFrom_5 rfl (fun q => ?_) (fun q => ?_)
  · replace vc := vc.1 q
    refine go_iconst (v := (-1)) dX4_stepFrom_16 rfl ?_
    exact go_iret dX4_stepFrom_17 rfl vc rfl (Nat.le_refl _) (Nat.le_refl _)
  · replace vc := vc.2 q
    refine go_aload_n (x := b) dX4_stepFrom_8 rfl ?_
    refine go_getI' (v := (h1.1 b 11)) dX4_stepFrom_9 f4_53 (slx hb) (fun _ _ => rfl) rfl ?_
    refine go_iconst (v := 1) dX4_stepFrom_12 rfl ?_
    refine go_icmp_ge 18 dX4_stepFrom_13 rfl (fun q => ?_) (fun q => ?_)
    · replace vc := vc.1 q
      refine go_iload_n (x := a1) dX4_stepFrom_18 rfl ?_
      refine go_aload_n (x := b) dX4_stepFrom_19 rfl ?_
      refine go_getI' (v := (h1.1 b 11)) dX4_stepFrom_20 f4_53 (slx hb) (fun _ _ => rfl) rfl ?_
      refine go_irem dX4_stepFrom_23 vc.1 ?_
      have vc := vc.2
      refine go_istore_n dX4_stepFrom_24 (Nat.le_of_ble_eq_true rfl) ?_
      show gg p l e s m args below meth c G (d + 1) MX4_stepFrom Q 25 [some (.ref b), some (.int a1), some (.int a2), some (.int (a1 - a1 / (h1.1 b 11) * (h1.1 b 11))), none] [] h1
      refine go_iconst (v := (-1)) dX4_stepFrom_25 rfl ?_
      refine go_istore dX4_stepFrom_26 (Nat.le_of_ble_eq_true rfl) ?_
      show gg p l e s m args below meth c G (d + 1) MX4_stepFrom Q 28 [some (.ref b), some (.int a1), some (.int a2), some (.int (a1 - a1 / (h1.1 b 11) * (h1.1 b 11))), some (.int (-1))] [] h1
      refine go_iload_n (x := a2) dX4_stepFrom_28 rfl ?_
      by_cases q0 : a2 = 0
      · refine go_tableIn (off := 31) 60 dX4_stepFrom_29 (by rw [q0]; decide) (by rw [q0]; decide) (by rw [q0]; rfl) rfl ?_
        replace vc := vc.1 q0
        refine go_iload_n (x := a1) dX4_stepFrom_60 rfl ?_
        refine go_aload_n (x := b) dX4_stepFrom_61 rfl ?_
        refine go_getI' (v := (h1.1 b 11)) dX4_stepFrom_62 f4_53 (slx hb) (fun _ _ => rfl) rfl ?_
        refine go_isub dX4_stepFrom_65 ?_
        refine go_istore dX4_stepFrom_66 (Nat.le_of_ble_eq_true rfl) ?_
        show gg p l e s m args below meth c G (d + 1) MX4_stepFrom Q 68 [some (.ref b), some (.int a1), some (.int a2), some (.int (a1 - a1 / (h1.1 b 11) * (h1.1 b 11))), some (.int (a1 - (h1.1 b 11)))] [] h1
        refine go_goto 120 dX4_stepFrom_68 rfl ?_
        refine go_aload_n (x := b) dX4_stepFrom_120 rfl ?_
        refine go_iload (x := (a1 - (h1.1 b 11))) dX4_stepFrom_121 rfl ?_
        refine gvI1 MX4_isWater dX4_stepFrom_123 lX4_90 kX4_isWater vX4_isWater (slx hb) (by decide) rfl (Nat.le_of_ble_eq_true rfl) vc ?_
        intro v2 h2 vc
        obtain ⟨hR2, vc⟩ := vc
        replace hR := hR2.trans hR
        refine go_if_eq 134 dX4_stepFrom_126 rfl (fun q => ?_) (fun q => ?_)
        · replace vc := vc.1 q
          refine go_iconst (v := (-1)) dX4_stepFrom_134 rfl ?_
          exact go_iret dX4_stepFrom_135 rfl vc rfl (Nat.le_refl _) (Nat.le_refl _)
        · replace vc := vc.2 q
          refine go_iload (x := (a1 - (h1.1 b 11))) dX4_stepFrom_129 rfl ?_
          refine go_goto 135 dX4_stepFrom_131 rfl ?_
          exact go_iret dX4_stepFrom_135 rfl vc rfl (Nat.le_refl _) (Nat.le_refl _)
      by_cases q1 : a2 = 1
      · refine go_tableIn (off := 42) 71 dX4_stepFrom_29 (by rw [q1]; decide) (by rw [q1]; decide) (by rw [q1]; rfl) rfl ?_
        replace vc := vc.2.1 q1
        refine go_iload_n (x := (a1 - a1 / (h1.1 b 11) * (h1.1 b 11))) dX4_stepFrom_71 rfl ?_
        refine go_iconst (v := 1) dX4_stepFrom_72 rfl ?_
        refine go_iadd dX4_stepFrom_73 ?_
        refine go_aload_n (x := b) dX4_stepFrom_74 rfl ?_
        refine go_getI' (v := (h1.1 b 11)) dX4_stepFrom_75 f4_53 (slx hb) (fun _ _ => rfl) rfl ?_
        refine go_icmp_ge 87 dX4_stepFrom_78 rfl (fun q => ?_) (fun q => ?_)
        · replace vc := vc.1 q
          refine go_iconst (v := (-1)) dX4_stepFrom_87 rfl ?_
          refine go_istore dX4_stepFrom_88 (Nat.le_of_ble_eq_true rfl) ?_
          show gg p l e s m args below meth c G (d + 1) MX4_stepFrom Q 90 [some (.ref b), some (.int a1), some (.int a2), some (.int (a1 - a1 / (h1.1 b 11) * (h1.1 b 11))), some (.int (-1))] [] h1
          refine go_goto 120 dX4_stepFrom_90 rfl ?_
          refine go_aload_n (x := b) dX4_stepFrom_120 rfl ?_
          refine go_iload (x := (-1)) dX4_stepFrom_121 rfl ?_
          refine gvI1 MX4_isWater dX4_stepFrom_123 lX4_90 kX4_isWater vX4_isWater (slx hb) (by decide) rfl (Nat.le_of_ble_eq_true rfl) vc ?_
          intro v3 h3 vc
          obtain ⟨hR3, vc⟩ := vc
          replace hR := hR3.trans hR
          refine go_if_eq 134 dX4_stepFrom_126 rfl (fun q => ?_) (fun q => ?_)
          · replace vc := vc.1 q
            refine go_iconst (v := (-1)) dX4_stepFrom_134 rfl ?_
            exact go_iret dX4_stepFrom_135 rfl vc rfl (Nat.le_refl _) (Nat.le_refl _)
          · replace vc := vc.2 q
            refine go_iload (x := (-1)) dX4_stepFrom_129 rfl ?_
            refine go_goto 135 dX4_stepFrom_131 rfl ?_
            exact go_iret dX4_stepFrom_135 rfl vc rfl (Nat.le_refl _) (Nat.le_refl _)
        · replace vc := vc.2 q
          refine go_iload_n (x := a1) dX4_stepFrom_81 rfl ?_
          refine go_iconst (v := 1) dX4_stepFrom_82 rfl ?_
          refine go_iadd dX4_stepFrom_83 ?_
          refine go_goto 88 dX4_stepFrom_84 rfl ?_
          refine go_istore dX4_stepFrom_88 (Nat.le_of_ble_eq_true rfl) ?_
          show gg p l e s m args below meth c G (d + 1) MX4_stepFrom Q 90 [some (.ref b), some (.int a1), some (.int a2), some (.int (a1 - a1 / (h1.1 b 11) * (h1.1 b 11))), some (.int (a1 + 1))] [] h1
          refine go_goto 120 dX4_stepFrom_90 rfl ?_
          refine go_aload_n (x := b) dX4_stepFrom_120 rfl ?_
          refine go_iload (x := (a1 + 1)) dX4_stepFrom_121 rfl ?_
          refine gvI1 MX4_isWater dX4_stepFrom_123 lX4_90 kX4_isWater vX4_isWater (slx hb) (by decide) rfl (Nat.le_of_ble_eq_true rfl) vc ?_
          intro v4 h4 vc
          obtain ⟨hR4, vc⟩ := vc
          replace hR := hR4.trans hR
          refine go_if_eq 134 dX4_stepFrom_126 rfl (fun q => ?_) (fun q => ?_)
          · replace vc := vc.1 q
            refine go_iconst (v := (-1)) dX4_stepFrom_134 rfl ?_
            exact go_iret dX4_stepFrom_135 rfl vc rfl (Nat.le_refl _) (Nat.le_refl _)
          · replace vc := vc.2 q
            refine go_iload (x := (a1 + 1)) dX4_stepFrom_129 rfl ?_
            refine go_goto 135 dX4_stepFrom_131 rfl ?_
            exact go_iret dX4_stepFrom_135 rfl vc rfl (Nat.le_refl _) (Nat.le_refl _)
      by_cases q2 : a2 = 2
      · refine go_tableIn (off := 64) 93 dX4_stepFrom_29 (by rw [q2]; decide) (by rw [q2]; decide) (by rw [q2]; rfl) rfl ?_
        replace vc := vc.2.2.1 q2
        refine go_iload_n (x := a1) dX4_stepFrom_93 rfl ?_
        refine go_aload_n (x := b) dX4_stepFrom_94 rfl ?_
        refine go_getI' (v := (h1.1 b 11)) dX4_stepFrom_95 f4_53 (slx hb) (fun _ _ => rfl) rfl ?_
        refine go_iadd dX4_stepFrom_98 ?_
        refine go_istore dX4_stepFrom_99 (Nat.le_of_ble_eq_true rfl) ?_
        show gg p l e s m args below meth c G (d + 1) MX4_stepFrom Q 101 [some (.ref b), some (.int a1), some (.int a2), some (.int (a1 - a1 / (h1.1 b 11) * (h1.1 b 11))), some (.int (a1 + (h1.1 b 11)))] [] h1
        refine go_goto 120 dX4_stepFrom_101 rfl ?_
        refine go_aload_n (x := b) dX4_stepFrom_120 rfl ?_
        refine go_iload (x := (a1 + (h1.1 b 11))) dX4_stepFrom_121 rfl ?_
        refine gvI1 MX4_isWater dX4_stepFrom_123 lX4_90 kX4_isWater vX4_isWater (slx hb) (by decide) rfl (Nat.le_of_ble_eq_true rfl) vc ?_
        intro v5 h5 vc
        obtain ⟨hR5, vc⟩ := vc
        replace hR := hR5.trans hR
        refine go_if_eq 134 dX4_stepFrom_126 rfl (fun q => ?_) (fun q => ?_)
        · replace vc := vc.1 q
          refine go_iconst (v := (-1)) dX4_stepFrom_134 rfl ?_
          exact go_iret dX4_stepFrom_135 rfl vc rfl (Nat.le_refl _) (Nat.le_refl _)
        · replace vc := vc.2 q
          refine go_iload (x := (a1 + (h1.1 b 11))) dX4_stepFrom_129 rfl ?_
          refine go_goto 135 dX4_stepFrom_131 rfl ?_
          exact go_iret dX4_stepFrom_135 rfl vc rfl (Nat.le_refl _) (Nat.le_refl _)
      by_cases q3 : a2 = 3
      · refine go_tableIn (off := 75) 104 dX4_stepFrom_29 (by rw [q3]; decide) (by rw [q3]; decide) (by rw [q3]; rfl) rfl ?_
        replace vc := vc.2.2.2.1 q3
        refine go_iload_n (x := (a1 - a1 / (h1.1 b 11) * (h1.1 b 11))) dX4_stepFrom_104 rfl ?_
        refine go_if_le 114 dX4_stepFrom_105 rfl (fun q => ?_) (fun q => ?_)
        · replace vc := vc.1 q
          refine go_iconst (v := (-1)) dX4_stepFrom_114 rfl ?_
          refine go_istore dX4_stepFrom_115 (Nat.le_of_ble_eq_true rfl) ?_
          show gg p l e s m args below meth c G (d + 1) MX4_stepFrom Q 117 [some (.ref b), some (.int a1), some (.int a2), some (.int (a1 - a1 / (h1.1 b 11) * (h1.1 b 11))), some (.int (-1))] [] h1
          refine go_goto 120 dX4_stepFrom_117 rfl ?_
          refine go_aload_n (x := b) dX4_stepFrom_120 rfl ?_
          refine go_iload (x := (-1)) dX4_stepFrom_121 rfl ?_
          refine gvI1 MX4_isWater dX4_stepFrom_123 lX4_90 kX4_isWater vX4_isWater (slx hb) (by decide) rfl (Nat.le_of_ble_eq_true rfl) vc ?_
          intro v6 h6 vc
          obtain ⟨hR6, vc⟩ := vc
          replace hR := hR6.trans hR
          refine go_if_eq 134 dX4_stepFrom_126 rfl (fun q => ?_) (fun q => ?_)
          · replace vc := vc.1 q
            refine go_iconst (v := (-1)) dX4_stepFrom_134 rfl ?_
            exact go_iret dX4_stepFrom_135 rfl vc rfl (Nat.le_refl _) (Nat.le_refl _)
          · replace vc := vc.2 q
            refine go_iload (x := (-1)) dX4_stepFrom_129 rfl ?_
            refine go_goto 135 dX4_stepFrom_131 rfl ?_
            exact go_iret dX4_stepFrom_135 rfl vc rfl (Nat.le_refl _) (Nat.le_refl _)
        · replace vc := vc.2 q
          refine go_iload_n (x := a1) dX4_stepFrom_108 rfl ?_
          refine go_iconst (v := 1) dX4_stepFrom_109 rfl ?_
          refine go_isub dX4_stepFrom_110 ?_
          refine go_goto 115 dX4_stepFrom_111 rfl ?_
          refine go_istore dX4_stepFrom_115 (Nat.le_of_ble_eq_true rfl) ?_
          show gg p l e s m args below meth c G (d + 1) MX4_stepFrom Q 117 [some (.ref b), some (.int a1), some (.int a2), some (.int (a1 - a1 / (h1.1 b 11) * (h1.1 b 11))), some (.int (a1 - 1))] [] h1
          refine go_goto 120 dX4_stepFrom_117 rfl ?_
          refine go_aload_n (x := b) dX4_stepFrom_120 rfl ?_
          refine go_iload (x := (a1 - 1)) dX4_stepFrom_121 rfl ?_
          refine gvI1 MX4_isWater dX4_stepFrom_123 lX4_90 kX4_isWater vX4_isWater (slx hb) (by decide) rfl (Nat.le_of_ble_eq_true rfl) vc ?_
          intro v7 h7 vc
          obtain ⟨hR7, vc⟩ := vc
          replace hR := hR7.trans hR
          refine go_if_eq 134 dX4_stepFrom_126 rfl (fun q => ?_) (fun q => ?_)
          · replace vc := vc.1 q
            refine go_iconst (v := (-1)) dX4_stepFrom_134 rfl ?_
            exact go_iret dX4_stepFrom_135 rfl vc rfl (Nat.le_refl _) (Nat.le_refl _)
          · replace vc := vc.2 q
            refine go_iload (x := (a1 - 1)) dX4_stepFrom_129 rfl ?_
            refine go_goto 135 dX4_stepFrom_131 rfl ?_
            exact go_iret dX4_stepFrom_135 rfl vc rfl (Nat.le_refl _) (Nat.le_refl _)
      replace vc := vc.2.2.2.2 q0 q1 q2 q3
      refine go_tableOut 120 dX4_stepFrom_29 ?_ rfl ?_
      · have e0 : ¬ (a2).toInt = 0 := lv_neT q0 rfl; have e1 : ¬ (a2).toInt = 1 := lv_neT q1 rfl; have e2 : ¬ (a2).toInt = 2 := lv_neT q2 rfl; have e3 : ¬ (a2).toInt = 3 := lv_neT q3 rfl
        omega
      refine go_aload_n (x := b) dX4_stepFrom_120 rfl ?_
      refine go_iload (x := (-1)) dX4_stepFrom_121 rfl ?_
      refine gvI1 MX4_isWater dX4_stepFrom_123 lX4_90 kX4_isWater vX4_isWater (slx hb) (by decide) rfl (Nat.le_of_ble_eq_true rfl) vc ?_
      intro v8 h8 vc
      obtain ⟨hR8, vc⟩ := vc
      replace hR := hR8.trans hR
      refine go_if_eq 134 dX4_stepFrom_126 rfl (fun q => ?_) (fun q => ?_)
      · replace vc := vc.1 q
        refine go_iconst (v := (-1)) dX4_stepFrom_134 rfl ?_
        exact go_iret dX4_stepFrom_135 rfl vc rfl (Nat.le_refl _) (Nat.le_refl _)
      · replace vc := vc.2 q
        refine go_iload (x := (-1)) dX4_stepFrom_129 rfl ?_
        refine go_goto 135 dX4_stepFrom_131 rfl ?_
        exact go_iret dX4_stepFrom_135 rfl vc rfl (Nat.le_refl _) (Nat.le_refl _)
    · replace vc := vc.2 q
      refine go_iconst (v := (-1)) dX4_stepFrom_16 rfl ?_
      exact go_iret dX4_stepFrom_17 rfl vc rfl (Nat.le_refl _) (Nat.le_refl _)
set_option maxRecDepth 20000 in
theorem wX4_isBeside_0 {p : Program} {l : Launch} {e : Env} {s : State} {m : MethodId} {args : Array Value} {below : List Frame} {meth : Method} {c : Code} {G : gG} {d : Nat} {Q : Option Value → gH → Prop} {h : gH} {lk sp : Nat} {cd : Option Nat} {b : Nat} {a1 : Int32} {a2 : Int32} (hR : h.2.2 = gRF lk sp cd) (hlk : lk = 30 ∨ lk = 67) (hsp : sp = 30 ∨ sp = 67) (hb : b = 30 ∨ b = 67) (vc : gg p l e s m args below meth c G (d + 1) MX4_isBeside Q 2 [some (.ref b), some (.int a1), some (.int a2), some (.int 0)] [] h) : gg p l e s m args below meth c G (d + 1) MX4_isBeside Q 0 [some (.ref b), some (.int a1), some (.int a2), none] [] h := by
  refine go_iconst (v := 0) dX4_isBeside_0 rfl ?_
  refine go_istore_n dX4_isBeside_1 (Nat.le_of_ble_eq_true rfl) ?_
  show gg p l e s m args below meth c G (d + 1) MX4_isBeside Q 2 [some (.ref b), some (.int a1), some (.int a2), some (.int 0)] [] h
  exact vc
set_option maxRecDepth 20000 in
theorem wX4_isBeside_2 {p : Program} {l : Launch} {e : Env} {s : State} {m : MethodId} {args : Array Value} {below : List Frame} {meth : Method} {c : Code} {G : gG} {d : Nat} {Q : Option Value → gH → Prop} {h : gH} {lk sp : Nat} {cd : Option Nat} {b : Nat} {x1 : Int32} {x2 : Int32} {x3 : Int32} (hR : h.2.2 = gRF lk sp cd) (hlk : lk = 30 ∨ lk = 67) (hsp : sp = 30 ∨ sp = 67) (hb : b = 30 ∨ b = 67) (vc : ((4 ≤ x3 → Q (some (.int 0)) h) ∧ (¬ 4 ≤ x3 → ((x2 = (-1) → gg p l e s m args below meth c G (d + 1) MX4_isBeside Q 2 [some (.ref b), some (.int x1), some (.int x2), some (.int (x3 + 1))] [] h) ∧ (¬ x2 = (-1) → gC l G d MX4_stepFrom [.ref b, .int x1, .int x3] h (rI fun v1 h1 => h1.2.2 = (h).2.2 ∧ ((¬ v1 = x2 → gg p l e s m args below meth c G (d + 1) MX4_isBeside Q 2 [some (.ref b), some (.int x1), some (.int x2), some (.int (x3 + 1))] [] h1) ∧ (v1 = x2 → Q (some (.int 1)) h1)))))))) : gg p l e s m args below meth c G (d + 1) MX4_isBeside Q 2 [some (.ref b), some (.int x1), some (.int x2), some (.int x3)] [] h := by
  refine go_iload_n (x := x3) dX4_isBeside_2 rfl ?_
  refine go_iconst (v := 4) dX4_isBeside_3 rfl ?_
  refine go_icmp_ge 30 dX4_isBeside_4 rfl (fun q => ?_) (fun q => ?_)
  · replace vc := vc.1 q
    refine go_iconst (v := 0) dX4_isBeside_30 rfl ?_
    exact go_zret dX4_isBeside_31 rfl (by decide) vc rfl (Nat.le_refl _) (Nat.le_refl _)
  · replace vc := vc.2 q
    refine go_iload_n (x := x2) dX4_isBeside_7 rfl ?_
    refine go_iconst (v := (-1)) dX4_isBeside_8 rfl ?_
    refine go_icmp_eq 24 dX4_isBeside_9 rfl (fun q => ?_) (fun q => ?_)
    · replace vc := vc.1 q
      refine go_iinc (x := x3) dX4_isBeside_24 rfl ?_
      show gg p l e s m args below meth c G (d + 1) MX4_isBeside Q 27 [some (.ref b), some (.int x1), some (.int x2), some (.int (x3 + 1))] [] h
      refine go_goto 2 dX4_isBeside_27 rfl ?_
      exact vc
    · replace vc := vc.2 q
      refine go_aload_n (x := b) dX4_isBeside_12 rfl ?_
      refine go_iload_n (x := x1) dX4_isBeside_13 rfl ?_
      refine go_iload_n (x := x3) dX4_isBeside_14 rfl ?_
      refine gvI2 MX4_stepFrom dX4_isBeside_15 lX4_99 kX4_stepFrom vX4_stepFrom (slx hb) (by decide) rfl (Nat.le_of_ble_eq_true rfl) vc ?_
      intro v1 h1 vc
      obtain ⟨hR1, vc⟩ := vc
      replace hR := hR1.trans hR
      refine go_iload_n (x := x2) dX4_isBeside_18 rfl ?_
      refine go_icmp_ne 24 dX4_isBeside_19 rfl (fun q => ?_) (fun q => ?_)
      · replace vc := vc.1 q
        refine go_iinc (x := x3) dX4_isBeside_24 rfl ?_
        show gg p l e s m args below meth c G (d + 1) MX4_isBeside Q 27 [some (.ref b), some (.int x1), some (.int x2), some (.int (x3 + 1))] [] h1
        refine go_goto 2 dX4_isBeside_27 rfl ?_
        exact vc
      · replace vc := vc.2 q
        refine go_iconst (v := 1) dX4_isBeside_22 rfl ?_
        exact go_zret dX4_isBeside_23 rfl (by decide) vc rfl (Nat.le_refl _) (Nat.le_refl _)
set_option maxRecDepth 20000 in
theorem wX4_measureHomes_0 {p : Program} {l : Launch} {e : Env} {s : State} {m : MethodId} {args : Array Value} {below : List Frame} {meth : Method} {c : Code} {G : gG} {d : Nat} {Q : Option Value → gH → Prop} {h : gH} {lk sp : Nat} {cd : Option Nat} {b : Nat} (hR : h.2.2 = gRF lk sp cd) (hlk : lk = 30 ∨ lk = 67) (hsp : sp = 30 ∨ sp = 67) (hb : b = 30 ∨ b = 67) (vc : gg p l e s m args below meth c G (d + 1) MX4_measureHomes Q 2 [some (.ref b), some (.int 0), none] [] h) : gg p l e s m args below meth c G (d + 1) MX4_measureHomes Q 0 [some (.ref b), none, none] [] h := by
  refine go_iconst (v := 0) dX4_measureHomes_0 rfl ?_
  refine go_istore_n dX4_measureHomes_1 (Nat.le_of_ble_eq_true rfl) ?_
  show gg p l e s m args below meth c G (d + 1) MX4_measureHomes Q 2 [some (.ref b), some (.int 0), none] [] h
  exact vc
set_option maxRecDepth 20000 in
theorem wX4_measureHomes_2 {p : Program} {l : Launch} {e : Env} {s : State} {m : MethodId} {args : Array Value} {below : List Frame} {meth : Method} {c : Code} {G : gG} {d : Nat} {Q : Option Value → gH → Prop} {h : gH} {lk sp : Nat} {cd : Option Nat} {b : Nat} {x1 : Int32} (hR : h.2.2 = gRF lk sp cd) (hlk : lk = 30 ∨ lk = 67) (hsp : sp = 30 ∨ sp = 67) (hb : b = 30 ∨ b = 67) (vc : gC l G d MX4_cells [.ref b] h (rI fun v1 h1 => h1.2.2 = (h).2.2 ∧ ((v1 ≤ x1 → Q none h1) ∧ (¬ v1 ≤ x1 → (vp_in x1 48 ∧ gg p l e s m args below meth c G (d + 1) MX4_measureHomes Q 20 [some (.ref b), some (.int x1), some (.int 0)] [] (sI h1 (b + 2) x1.toNatClampNeg 99)))))) : gg p l e s m args below meth c G (d + 1) MX4_measureHomes Q 2 [some (.ref b), some (.int x1), none] [] h := by
  refine go_iload_n (x := x1) dX4_measureHomes_2 rfl ?_
  refine go_aload_n (x := b) dX4_measureHomes_3 rfl ?_
  refine gvI0 MX4_cells dX4_measureHomes_4 lX4_102 kX4_cells vX4_cells (slx hb) (by decide) rfl (Nat.le_of_ble_eq_true rfl) vc ?_
  intro v1 h1 vc
  obtain ⟨hR1, vc⟩ := vc
  replace hR := hR1.trans hR
  refine go_icmp_ge 69 dX4_measureHomes_7 rfl (fun q => ?_) (fun q => ?_)
  · replace vc := vc.1 q
    exact go_vret dX4_measureHomes_69 rfl vc rfl (Nat.le_refl _) (Nat.le_refl _)
  · replace vc := vc.2 q
    refine go_aload_n (x := b) dX4_measureHomes_10 rfl ?_
    refine go_getR (x := (b + 2)) dX4_measureHomes_11 f4_15 (slx hb) (fun _ _ => rfl) (rl_s hR hb (by decide)) ?_
    refine go_iload_n (x := x1) dX4_measureHomes_14 rfl ?_
    refine go_bipush (v := 99) dX4_measureHomes_15 rfl ?_
    refine go_iast dX4_measureHomes_17 (sl2 hb) vc.1 ?_
    have vc := vc.2
    show gg p l e s m args below meth c G (d + 1) MX4_measureHomes Q 18 [some (.ref b), some (.int x1), none] [] (sI h1 (b + 2) x1.toNatClampNeg 99)
    refine go_iconst (v := 0) dX4_measureHomes_18 rfl ?_
    refine go_istore_n dX4_measureHomes_19 (Nat.le_of_ble_eq_true rfl) ?_
    show gg p l e s m args below meth c G (d + 1) MX4_measureHomes Q 20 [some (.ref b), some (.int x1), some (.int 0)] [] (sI h1 (b + 2) x1.toNatClampNeg 99)
    exact vc
set_option maxRecDepth 20000 in
theorem wX4_measureHomes_20 {p : Program} {l : Launch} {e : Env} {s : State} {m : MethodId} {args : Array Value} {below : List Frame} {meth : Method} {c : Code} {G : gG} {d : Nat} {Q : Option Value → gH → Prop} {h : gH} {lk sp : Nat} {cd : Option Nat} {b : Nat} {x1 : Int32} {x2 : Int32} (hR : h.2.2 = gRF lk sp cd) (hlk : lk = 30 ∨ lk = 67) (hsp : sp = 30 ∨ sp = 67) (hb : b = 30 ∨ b = 67) (vc : gC l G d MX4_cells [.ref b] h (rI fun v1 h1 => h1.2.2 = (h).2.2 ∧ ((v1 ≤ x2 → gg p l e s m args below meth c G (d + 1) MX4_measureHomes Q 2 [some (.ref b), some (.int (x1 + 1)), none] [] h1) ∧ (¬ v1 ≤ x2 → gC l G d MX4_isHarbour [.ref b, .int x2] h1 (rI fun v2 h2 => h2.2.2 = (h1).2.2 ∧ ((v2 = 0 → gg p l e s m args below meth c G (d + 1) MX4_measureHomes Q 20 [some (.ref b), some (.int x1), some (.int (x2 + 1))] [] h2) ∧ (¬ v2 = 0 → (vp_in x1 48 ∧ gC l G d MX4_apart [.ref b, .int x1, .int x2] h2 (rI fun v3 h3 => h3.2.2 = (h2).2.2 ∧ (vp_in x1 48 ∧ gg p l e s m args below meth c G (d + 1) MX4_measureHomes Q 20 [some (.ref b), some (.int x1), some (.int (x2 + 1))] [] (sI h3 (b + 2) x1.toNatClampNeg (if v3 < (h2.1 (b + 2) x1.toNatClampNeg) then v3 else (h2.1 (b + 2) x1.toNatClampNeg))))))))))))) : gg p l e s m args below meth c G (d + 1) MX4_measureHomes Q 20 [some (.ref b), some (.int x1), some (.int x2)] [] h := by
  refine go_iload_n (x := x2) dX4_measureHomes_20 rfl ?_
  refine go_aload_n (x := b) dX4_measureHomes_21 rfl ?_
  refine gvI0 MX4_cells dX4_measureHomes_22 lX4_102 kX4_cells vX4_cells (slx hb) (by decide) rfl (Nat.le_of_ble_eq_true rfl) vc ?_
  intro v1 h1 vc
  obtain ⟨hR1, vc⟩ := vc
  replace hR := hR1.trans hR
  refine go_icmp_ge 63 dX4_measureHomes_25 rfl (fun q => ?_) (fun q => ?_)
  · replace vc := vc.1 q
    refine go_iinc (x := x1) dX4_measureHomes_63 rfl ?_
    show gg p l e s m args below meth c G (d + 1) MX4_measureHomes Q 66 [some (.ref b), some (.int (x1 + 1)), some (.int x2)] [] h1
    refine go_goto 2 dX4_measureHomes_66 rfl ?_
    refine go_weak (ls' := [some (.ref b), some (.int (x1 + 1)), none]) ?_ vc
    exact (⟨rfl, ⟨rfl, trivial⟩⟩)
  · replace vc := vc.2 q
    refine go_aload_n (x := b) dX4_measureHomes_28 rfl ?_
    refine go_iload_n (x := x2) dX4_measureHomes_29 rfl ?_
    refine gvI1 MX4_isHarbour dX4_measureHomes_30 lX4_106 kX4_isHarbour vX4_isHarbour (slx hb) (by decide) rfl (Nat.le_of_ble_eq_true rfl) vc ?_
    intro v2 h2 vc
    obtain ⟨hR2, vc⟩ := vc
    replace hR := hR2.trans hR
    refine go_if_eq 57 dX4_measureHomes_33 rfl (fun q => ?_) (fun q => ?_)
    · replace vc := vc.1 q
      refine go_iinc (x := x2) dX4_measureHomes_57 rfl ?_
      show gg p l e s m args below meth c G (d + 1) MX4_measureHomes Q 60 [some (.ref b), some (.int x1), some (.int (x2 + 1))] [] h2
      refine go_goto 20 dX4_measureHomes_60 rfl ?_
      exact vc
    · replace vc := vc.2 q
      refine go_aload_n (x := b) dX4_measureHomes_36 rfl ?_
      refine go_getR (x := (b + 2)) dX4_measureHomes_37 f4_15 (slx hb) (fun _ _ => rfl) (rl_s hR hb (by decide)) ?_
      refine go_iload_n (x := x1) dX4_measureHomes_40 rfl ?_
      refine go_aload_n (x := b) dX4_measureHomes_41 rfl ?_
      refine go_getR (x := (b + 2)) dX4_measureHomes_42 f4_15 (slx hb) (fun _ _ => rfl) (rl_s hR hb (by decide)) ?_
      refine go_iload_n (x := x1) dX4_measureHomes_45 rfl ?_
      refine go_iald' (v := (h2.1 (b + 2) x1.toNatClampNeg)) dX4_measureHomes_46 (sl2 hb) vc.1 rfl ?_
      have vc := vc.2
      refine go_aload_n (x := b) dX4_measureHomes_47 rfl ?_
      refine go_iload_n (x := x1) dX4_measureHomes_48 rfl ?_
      refine go_iload_n (x := x2) dX4_measureHomes_49 rfl ?_
      refine gvI2 MX4_apart dX4_measureHomes_50 lX4_109 kX4_apart vX4_apart (slx hb) (by decide) rfl (Nat.le_of_ble_eq_true rfl) vc ?_
      intro v3 h3 vc
      obtain ⟨hR3, vc⟩ := vc
      replace hR := hR3.trans hR
      refine go_min dX4_measureHomes_53 lX4_80 (Nat.le_of_ble_eq_true rfl) ?_
      refine go_iast dX4_measureHomes_56 (sl2 hb) vc.1 ?_
      have vc := vc.2
      show gg p l e s m args below meth c G (d + 1) MX4_measureHomes Q 57 [some (.ref b), some (.int x1), some (.int x2)] [] (sI h3 (b + 2) x1.toNatClampNeg (if v3 < (h2.1 (b + 2) x1.toNatClampNeg) then v3 else (h2.1 (b + 2) x1.toNatClampNeg)))
      refine go_iinc (x := x2) dX4_measureHomes_57 rfl ?_
      show gg p l e s m args below meth c G (d + 1) MX4_measureHomes Q 60 [some (.ref b), some (.int x1), some (.int (x2 + 1))] [] (sI h3 (b + 2) x1.toNatClampNeg (if v3 < (h2.1 (b + 2) x1.toNatClampNeg) then v3 else (h2.1 (b + 2) x1.toNatClampNeg)))
      refine go_goto 20 dX4_measureHomes_60 rfl ?_
      exact vc
set_option maxRecDepth 20000 in
theorem wX4_apart_0 {p : Program} {l : Launch} {e : Env} {s : State} {m : MethodId} {args : Array Value} {below : List Frame} {meth : Method} {c : Code} {G : gG} {d : Nat} {Q : Option Value → gH → Prop} {h : gH} {lk sp : Nat} {cd : Option Nat} {b : Nat} {a1 : Int32} {a2 : Int32} (hR : h.2.2 = gRF lk sp cd) (hlk : lk = 30 ∨ lk = 67) (hsp : sp = 30 ∨ sp = 67) (hb : b = 30 ∨ b = 67) (vc : ((1 ≤ (h.1 b 11) → (¬ (h.1 b 11) = 0 ∧ (¬ (h.1 b 11) = 0 ∧ (¬ (h.1 b 11) = 0 ∧ (¬ (h.1 b 11) = 0 ∧ Q (some (.int ((if 0 ≤ ((a1 - a1 / (h.1 b 11) * (h.1 b 11)) - (a2 - a2 / (h.1 b 11) * (h.1 b 11))) then ((a1 - a1 / (h.1 b 11) * (h.1 b 11)) - (a2 - a2 / (h.1 b 11) * (h.1 b 11))) else 0 - ((a1 - a1 / (h.1 b 11) * (h.1 b 11)) - (a2 - a2 / (h.1 b 11) * (h.1 b 11)))) + (if 0 ≤ ((a1 / (h.1 b 11)) - (a2 / (h.1 b 11))) then ((a1 / (h.1 b 11)) - (a2 / (h.1 b 11))) else 0 - ((a1 / (h.1 b 11)) - (a2 / (h.1 b 11))))))) h))))) ∧ (¬ 1 ≤ (h.1 b 11) → Q (some (.int 99)) h))) : gg p l e s m args below meth c G (d + 1) MX4_apart Q 0 [some (.ref b), some (.int a1), some (.int a2)] [] h := by
  refine go_aload_n (x := b) dX4_apart_0 rfl ?_
  refine go_getI' (v := (h.1 b 11)) dX4_apart_1 f4_53 (slx hb) (fun _ _ => rfl) rfl ?_
  refine go_iconst (v := 1) dX4_apart_4 rfl ?_
  refine go_icmp_ge 11 dX4_apart_5 rfl (fun q => ?_) (fun q => ?_)
  · replace vc := vc.1 q
    refine go_iload_n (x := a1) dX4_apart_11 rfl ?_
    refine go_aload_n (x := b) dX4_apart_12 rfl ?_
    refine go_getI' (v := (h.1 b 11)) dX4_apart_13 f4_53 (slx hb) (fun _ _ => rfl) rfl ?_
    refine go_irem dX4_apart_16 vc.1 ?_
    have vc := vc.2
    refine go_iload_n (x := a2) dX4_apart_17 rfl ?_
    refine go_aload_n (x := b) dX4_apart_18 rfl ?_
    refine go_getI' (v := (h.1 b 11)) dX4_apart_19 f4_53 (slx hb) (fun _ _ => rfl) rfl ?_
    refine go_irem dX4_apart_22 vc.1 ?_
    have vc := vc.2
    refine go_isub dX4_apart_23 ?_
    refine go_abs dX4_apart_24 lX4_112 (Nat.le_of_ble_eq_true rfl) ?_
    refine go_iload_n (x := a1) dX4_apart_27 rfl ?_
    refine go_aload_n (x := b) dX4_apart_28 rfl ?_
    refine go_getI' (v := (h.1 b 11)) dX4_apart_29 f4_53 (slx hb) (fun _ _ => rfl) rfl ?_
    refine go_idiv dX4_apart_32 vc.1 ?_
    have vc := vc.2
    refine go_iload_n (x := a2) dX4_apart_33 rfl ?_
    refine go_aload_n (x := b) dX4_apart_34 rfl ?_
    refine go_getI' (v := (h.1 b 11)) dX4_apart_35 f4_53 (slx hb) (fun _ _ => rfl) rfl ?_
    refine go_idiv dX4_apart_38 vc.1 ?_
    have vc := vc.2
    refine go_isub dX4_apart_39 ?_
    refine go_abs dX4_apart_40 lX4_112 (Nat.le_of_ble_eq_true rfl) ?_
    refine go_iadd dX4_apart_43 ?_
    exact go_iret dX4_apart_44 rfl vc rfl (Nat.le_refl _) (Nat.le_refl _)
  · replace vc := vc.2 q
    refine go_bipush (v := 99) dX4_apart_8 rfl ?_
    exact go_iret dX4_apart_10 rfl vc rfl (Nat.le_refl _) (Nat.le_refl _)
set_option maxRecDepth 20000 in
theorem wX7_readLake_0 {p : Program} {l : Launch} {e : Env} {s : State} {m : MethodId} {args : Array Value} {below : List Frame} {meth : Method} {c : Code} {G : gG} {d : Nat} {Q : Option Value → gH → Prop} {h : gH} {lk sp : Nat} {cd : Option Nat} {b : Nat} (hR : h.2.2 = gRF lk sp cd) (hlk : lk = 30 ∨ lk = 67) (hsp : sp = 30 ∨ sp = 67) (hb : b = 30 ∨ b = 67) (vc : gC l G d MX4_clear [.ref b] h (rV fun h1 => h1.2.2 = (h).2.2 ∧ gC l G d MX5_rewind [.ref 1] h1 (rV fun h2 => h2.2.2 = (h1).2.2 ∧ gg p l e s m args below meth c G (d + 1) MX7_readLake Q 13 [some (.ref 5), some (.ref b), some (.int 0)] [] h2))) : gg p l e s m args below meth c G (d + 1) MX7_readLake Q 0 [some (.ref 5), some (.ref b), none] [] h := by
  refine go_aload_n (x := b) dX7_readLake_0 rfl ?_
  refine gvV0 MX4_clear dX7_readLake_1 lX7_19 kX4_clear vX4_clear (slx hb) (by decide) rfl (Nat.le_of_ble_eq_true rfl) vc ?_
  intro h1 vc
  obtain ⟨hR1, vc⟩ := vc
  replace hR := hR1.trans hR
  refine go_aload_n (x := 5) dX7_readLake_4 rfl ?_
  refine go_getR (x := 1) dX7_readLake_5 f7_9 sh5 (fun _ _ => rfl) (rf5_0 hR) ?_
  refine gvV0 MX5_rewind dX7_readLake_8 lX7_24 kX5_rewind vX5_rewind sh1 (by decide) rfl (Nat.le_of_ble_eq_true rfl) vc ?_
  intro h2 vc
  obtain ⟨hR2, vc⟩ := vc
  replace hR := hR2.trans hR
  refine go_iconst (v := 0) dX7_readLake_11 rfl ?_
  refine go_istore_n dX7_readLake_12 (Nat.le_of_ble_eq_true rfl) ?_
  show gg p l e s m args below meth c G (d + 1) MX7_readLake Q 13 [some (.ref 5), some (.ref b), some (.int 0)] [] h2
  exact vc
set_option maxRecDepth 20000 in
theorem wX7_readLake_13 {p : Program} {l : Launch} {e : Env} {s : State} {m : MethodId} {args : Array Value} {below : List Frame} {meth : Method} {c : Code} {G : gG} {d : Nat} {Q : Option Value → gH → Prop} {h : gH} {lk sp : Nat} {cd : Option Nat} {b : Nat} {x2 : Int32} (hR : h.2.2 = gRF lk sp cd) (hlk : lk = 30 ∨ lk = 67) (hsp : sp = 30 ∨ sp = 67) (hb : b = 30 ∨ b = 67) (vc : ((60 < x2 → ((¬ (h.1 b 17) = 0 → gC l G d MX4_measureHomes [.ref b] h (rV fun h1 => h1.2.2 = (h).2.2 ∧ Q (some (.int 1)) h1)) ∧ ((h.1 b 17) = 0 → gC l G d MX5_failHere [.ref 1, .int 1] h (rI fun v2 h2 => h2.2.2 = (h).2.2 ∧ ((v2 = 0 ∨ v2 = 1) ∧ Q (some (.int v2)) h2))))) ∧ (¬ 60 < x2 → (((h.1 1 3) = (-1) → ((¬ (h.1 b 17) = 0 → gC l G d MX4_measureHomes [.ref b] h (rV fun h3 => h3.2.2 = (h).2.2 ∧ Q (some (.int 1)) h3)) ∧ ((h.1 b 17) = 0 → gC l G d MX5_failHere [.ref 1, .int 1] h (rI fun v4 h4 => h4.2.2 = (h).2.2 ∧ ((v4 = 0 ∨ v4 = 1) ∧ Q (some (.int v4)) h4))))) ∧ (¬ (h.1 1 3) = (-1) → ((¬ x2 = 60 → gC l G d MX7_readStatement [.ref 5, .ref b] h (rI fun v5 h5 => (∃ cd5, h5.2.2 = gRF lk sp cd5) ∧ ((v5 = 0 → Q (some (.int 0)) h5) ∧ (¬ v5 = 0 → gC l G d MX5_takeSign [.ref 1, .int 59] h5 (rI fun v6 h6 => h6.2.2 = (h5).2.2 ∧ ((¬ v6 = 0 → gg p l e s m args below meth c G (d + 1) MX7_readLake Q 13 [some (.ref 5), some (.ref b), some (.int (x2 + 1))] [] (sI h6 b 17 ((h6.1 b 17) + 1))) ∧ (v6 = 0 → Q (some (.int 0)) h6))))))) ∧ (x2 = 60 → gC l G d MX5_failHere [.ref 1, .int 5] h (rI fun v7 h7 => h7.2.2 = (h).2.2 ∧ ((v7 = 0 ∨ v7 = 1) ∧ Q (some (.int v7)) h7))))))))) : gg p l e s m args below meth c G (d + 1) MX7_readLake Q 13 [some (.ref 5), some (.ref b), some (.int x2)] [] h := by
  refine go_iload_n (x := x2) dX7_readLake_13 rfl ?_
  refine go_bipush (v := 60) dX7_readLake_14 rfl ?_
  refine go_icmp_gt 83 dX7_readLake_16 rfl (fun q => ?_) (fun q => ?_)
  · replace vc := vc.1 q
    refine go_aload_n (x := b) dX7_readLake_83 rfl ?_
    refine go_getI' (v := (h.1 b 17)) dX7_readLake_84 f7_44 (slx hb) (fun _ _ => rfl) rfl ?_
    refine go_if_ne 99 dX7_readLake_87 rfl (fun q => ?_) (fun q => ?_)
    · replace vc := vc.1 q
      refine go_aload_n (x := b) dX7_readLake_99 rfl ?_
      refine gvV0 MX4_measureHomes dX7_readLake_100 lX7_47 kX4_measureHomes vX4_measureHomes (slx hb) (by decide) rfl (Nat.le_of_ble_eq_true rfl) vc ?_
      intro h1 vc
      obtain ⟨hR1, vc⟩ := vc
      replace hR := hR1.trans hR
      refine go_iconst (v := 1) dX7_readLake_103 rfl ?_
      exact go_zret dX7_readLake_104 rfl (by decide) vc rfl (Nat.le_refl _) (Nat.le_refl _)
    · replace vc := vc.2 q
      refine go_aload_n (x := 5) dX7_readLake_90 rfl ?_
      refine go_getR (x := 1) dX7_readLake_91 f7_9 sh5 (fun _ _ => rfl) (rf5_0 hR) ?_
      refine go_iconst (v := 1) dX7_readLake_94 rfl ?_
      refine gvI1 MX5_failHere dX7_readLake_95 lX7_33 kX5_failHere vX5_failHere sh1 (by decide) rfl (Nat.le_of_ble_eq_true rfl) vc ?_
      intro v2 h2 vc
      obtain ⟨hR2, vc⟩ := vc
      replace hR := hR2.trans hR
      exact go_zret dX7_readLake_98 rfl vc.1 vc.2 rfl (Nat.le_refl _) (Nat.le_refl _)
  · replace vc := vc.2 q
    refine go_aload_n (x := 5) dX7_readLake_19 rfl ?_
    refine go_getR (x := 1) dX7_readLake_20 f7_9 sh5 (fun _ _ => rfl) (rf5_0 hR) ?_
    refine go_getI' (v := (h.1 1 3)) dX7_readLake_23 f7_29 sh1 (fun _ _ => rfl) rfl ?_
    refine go_iconst (v := (-1)) dX7_readLake_26 rfl ?_
    refine go_icmp_eq 83 dX7_readLake_27 rfl (fun q => ?_) (fun q => ?_)
    · replace vc := vc.1 q
      refine go_aload_n (x := b) dX7_readLake_83 rfl ?_
      refine go_getI' (v := (h.1 b 17)) dX7_readLake_84 f7_44 (slx hb) (fun _ _ => rfl) rfl ?_
      refine go_if_ne 99 dX7_readLake_87 rfl (fun q => ?_) (fun q => ?_)
      · replace vc := vc.1 q
        refine go_aload_n (x := b) dX7_readLake_99 rfl ?_
        refine gvV0 MX4_measureHomes dX7_readLake_100 lX7_47 kX4_measureHomes vX4_measureHomes (slx hb) (by decide) rfl (Nat.le_of_ble_eq_true rfl) vc ?_
        intro h3 vc
        obtain ⟨hR3, vc⟩ := vc
        replace hR := hR3.trans hR
        refine go_iconst (v := 1) dX7_readLake_103 rfl ?_
        exact go_zret dX7_readLake_104 rfl (by decide) vc rfl (Nat.le_refl _) (Nat.le_refl _)
      · replace vc := vc.2 q
        refine go_aload_n (x := 5) dX7_readLake_90 rfl ?_
        refine go_getR (x := 1) dX7_readLake_91 f7_9 sh5 (fun _ _ => rfl) (rf5_0 hR) ?_
        refine go_iconst (v := 1) dX7_readLake_94 rfl ?_
        refine gvI1 MX5_failHere dX7_readLake_95 lX7_33 kX5_failHere vX5_failHere sh1 (by decide) rfl (Nat.le_of_ble_eq_true rfl) vc ?_
        intro v4 h4 vc
        obtain ⟨hR4, vc⟩ := vc
        replace hR := hR4.trans hR
        exact go_zret dX7_readLake_98 rfl vc.1 vc.2 rfl (Nat.le_refl _) (Nat.le_refl _)
    · replace vc := vc.2 q
      refine go_iload_n (x := x2) dX7_readLake_30 rfl ?_
      refine go_bipush (v := 60) dX7_readLake_31 rfl ?_
      refine go_icmp_ne 45 dX7_readLake_33 rfl (fun q => ?_) (fun q => ?_)
      · replace vc := vc.1 q
        refine go_aload_n (x := 5) dX7_readLake_45 rfl ?_
        refine go_aload_n (x := b) dX7_readLake_46 rfl ?_
        refine gvI1 MX7_readStatement dX7_readLake_47 lX7_37 kX7_readStatement vX7_readStatement sh5 (by decide) rfl (Nat.le_of_ble_eq_true rfl) vc ?_
        intro v5 h5 vc
        obtain ⟨⟨cd5, hR⟩, vc⟩ := vc
        refine go_if_eq 65 dX7_readLake_50 rfl (fun q => ?_) (fun q => ?_)
        · replace vc := vc.1 q
          refine go_iconst (v := 0) dX7_readLake_65 rfl ?_
          exact go_zret dX7_readLake_66 rfl (by decide) vc rfl (Nat.le_refl _) (Nat.le_refl _)
        · replace vc := vc.2 q
          refine go_aload_n (x := 5) dX7_readLake_53 rfl ?_
          refine go_getR (x := 1) dX7_readLake_54 f7_9 sh5 (fun _ _ => rfl) (rf5_0 hR) ?_
          refine go_bipush (v := 59) dX7_readLake_57 rfl ?_
          refine gvI1 MX5_takeSign dX7_readLake_59 lX7_41 kX5_takeSign vX5_takeSign sh1 (by decide) rfl (Nat.le_of_ble_eq_true rfl) vc ?_
          intro v6 h6 vc
          obtain ⟨hR6, vc⟩ := vc
          replace hR := hR6.trans hR
          refine go_if_ne 67 dX7_readLake_62 rfl (fun q => ?_) (fun q => ?_)
          · replace vc := vc.1 q
            refine go_aload_n (x := b) dX7_readLake_67 rfl ?_
            refine go_dup dX7_readLake_68 rfl ?_
            refine go_getI' (v := (h6.1 b 17)) dX7_readLake_69 f7_44 (slx hb) (fun _ _ => rfl) rfl ?_
            refine go_iconst (v := 1) dX7_readLake_72 rfl ?_
            refine go_iadd dX7_readLake_73 ?_
            refine go_putI dX7_readLake_74 f7_44 (slx hb) rfl rfl ?_
            refine go_iinc (x := x2) dX7_readLake_77 rfl ?_
            show gg p l e s m args below meth c G (d + 1) MX7_readLake Q 80 [some (.ref 5), some (.ref b), some (.int (x2 + 1))] [] (sI h6 b 17 ((h6.1 b 17) + 1))
            refine go_goto 13 dX7_readLake_80 rfl ?_
            exact vc
          · replace vc := vc.2 q
            refine go_iconst (v := 0) dX7_readLake_65 rfl ?_
            exact go_zret dX7_readLake_66 rfl (by decide) vc rfl (Nat.le_refl _) (Nat.le_refl _)
      · replace vc := vc.2 q
        refine go_aload_n (x := 5) dX7_readLake_36 rfl ?_
        refine go_getR (x := 1) dX7_readLake_37 f7_9 sh5 (fun _ _ => rfl) (rf5_0 hR) ?_
        refine go_iconst (v := 5) dX7_readLake_40 rfl ?_
        refine gvI1 MX5_failHere dX7_readLake_41 lX7_33 kX5_failHere vX5_failHere sh1 (by decide) rfl (Nat.le_of_ble_eq_true rfl) vc ?_
        intro v7 h7 vc
        obtain ⟨hR7, vc⟩ := vc
        replace hR := hR7.trans hR
        exact go_zret dX7_readLake_44 rfl vc.1 vc.2 rfl (Nat.le_refl _) (Nat.le_refl _)
set_option maxRecDepth 20000 in
theorem wX7_readStatement_0 {p : Program} {l : Launch} {e : Env} {s : State} {m : MethodId} {args : Array Value} {below : List Frame} {meth : Method} {c : Code} {G : gG} {d : Nat} {Q : Option Value → gH → Prop} {h : gH} {lk sp : Nat} {cd : Option Nat} {b : Nat} (hR : h.2.2 = gRF lk sp cd) (hlk : lk = 30 ∨ lk = 67) (hsp : sp = 30 ∨ sp = 67) (hb : b = 30 ∨ b = 67) (vc : ((¬ (h.1 1 3) = (-2) → gg p l e s m args below meth c G (d + 1) MX7_readStatement Q 35 [some (.ref 5), some (.ref b), none] [] h) ∧ ((h.1 1 3) = (-2) → gC l G d MX5_isWord [.ref 1, .int 0] h (rI fun v1 h1 => h1.2.2 = (h).2.2 ∧ ((¬ (h1.1 b 17) = 0 → gg p l e s m args below meth c G (d + 1) MX7_readStatement Q 32 [some (.ref 5), some (.ref b), none] [.int 0, .int v1] h1) ∧ ((h1.1 b 17) = 0 → gg p l e s m args below meth c G (d + 1) MX7_readStatement Q 32 [some (.ref 5), some (.ref b), none] [.int 1, .int v1] h1)))))) : gg p l e s m args below meth c G (d + 1) MX7_readStatement Q 0 [some (.ref 5), some (.ref b), none] [] h := by
  refine go_aload_n (x := 5) dX7_readStatement_0 rfl ?_
  refine go_getR (x := 1) dX7_readStatement_1 f7_9 sh5 (fun _ _ => rfl) (rf5_0 hR) ?_
  refine go_getI' (v := (h.1 1 3)) dX7_readStatement_4 f7_29 sh1 (fun _ _ => rfl) rfl ?_
  refine go_bipush (v := (-2)) dX7_readStatement_7 rfl ?_
  refine go_icmp_ne 35 dX7_readStatement_9 rfl (fun q => ?_) (fun q => ?_)
  · replace vc := vc.1 q
    exact vc
  · replace vc := vc.2 q
    refine go_aload_n (x := 5) dX7_readStatement_12 rfl ?_
    refine go_getR (x := 1) dX7_readStatement_13 f7_9 sh5 (fun _ _ => rfl) (rf5_0 hR) ?_
    refine go_iconst (v := 0) dX7_readStatement_16 rfl ?_
    refine gvI1 MX5_isWord dX7_readStatement_17 lX7_50 kX5_isWord vX5_isWord sh1 (by decide) rfl (Nat.le_of_ble_eq_true rfl) vc ?_
    intro v1 h1 vc
    obtain ⟨hR1, vc⟩ := vc
    replace hR := hR1.trans hR
    refine go_aload_n (x := b) dX7_readStatement_20 rfl ?_
    refine go_getI' (v := (h1.1 b 17)) dX7_readStatement_21 f7_44 (slx hb) (fun _ _ => rfl) rfl ?_
    refine go_if_ne 31 dX7_readStatement_24 rfl (fun q => ?_) (fun q => ?_)
    · replace vc := vc.1 q
      refine go_iconst (v := 0) dX7_readStatement_31 rfl ?_
      exact vc
    · replace vc := vc.2 q
      refine go_iconst (v := 1) dX7_readStatement_27 rfl ?_
      refine go_goto 32 dX7_readStatement_28 rfl ?_
      exact vc
set_option maxRecDepth 20000 in
theorem wX7_readStatement_32 {p : Program} {l : Launch} {e : Env} {s : State} {m : MethodId} {args : Array Value} {below : List Frame} {meth : Method} {c : Code} {G : gG} {d : Nat} {Q : Option Value → gH → Prop} {h : gH} {lk sp : Nat} {cd : Option Nat} {b : Nat} {y0 : Int32} {y1 : Int32} (hR : h.2.2 = gRF lk sp cd) (hlk : lk = 30 ∨ lk = 67) (hsp : sp = 30 ∨ sp = 67) (hb : b = 30 ∨ b = 67) (vc : ((y1 = y0 → gC l G d MX7_isOneTooMany [.ref b, .int (h.1 1 6)] h (rI fun v1 h1 => h1.2.2 = (h).2.2 ∧ ((v1 = 0 → (((h.1 1 6) = 0 → gC l G d MX7_readColumns [.ref 5, .ref b] h1 (rI fun v2 h2 => h2.2.2 = (h1).2.2 ∧ ((v2 = 0 ∨ v2 = 1) ∧ Q (some (.int v2)) h2))) ∧ ((h.1 1 6) = 1 → gC l G d MX7_readRow [.ref 5, .ref b] h1 (rI fun v3 h3 => h3.2.2 = (h1).2.2 ∧ ((v3 = 0 ∨ v3 = 1) ∧ Q (some (.int v3)) h3))) ∧ ((h.1 1 6) = 2 → gC l G d MX7_readBoat [.ref 5, .ref b] h1 (rI fun v4 h4 => h4.2.2 = (h1).2.2 ∧ ((v4 = 0 ∨ v4 = 1) ∧ Q (some (.int v4)) h4))) ∧ ((h.1 1 6) = 5 → gC l G d MX7_readHand [.ref 5, .ref b] h1 (rI fun v5 h5 => h5.2.2 = (h1).2.2 ∧ ((v5 = 0 ∨ v5 = 1) ∧ Q (some (.int v5)) h5))) ∧ ((h.1 1 6) = 7 → gC l G d MX7_readLikes [.ref 5, .ref b] h1 (rI fun v6 h6 => h6.2.2 = (h1).2.2 ∧ ((v6 = 0 ∨ v6 = 1) ∧ Q (some (.int v6)) h6))) ∧ ((h.1 1 6) = 8 → gg p l e s m args below meth c G (d + 1) MX7_readStatement Q 178 [some (.ref 5), some (.ref b), some (.int (h.1 1 6))] [] h1) ∧ ((h.1 1 6) = 9 → gg p l e s m args below meth c G (d + 1) MX7_readStatement Q 178 [some (.ref 5), some (.ref b), some (.int (h.1 1 6))] [] h1) ∧ ((h.1 1 6) = 10 → gg p l e s m args below meth c G (d + 1) MX7_readStatement Q 178 [some (.ref 5), some (.ref b), some (.int (h.1 1 6))] [] h1) ∧ ((h.1 1 6) = 11 → gg p l e s m args below meth c G (d + 1) MX7_readStatement Q 178 [some (.ref 5), some (.ref b), some (.int (h.1 1 6))] [] h1) ∧ ((h.1 1 6) = 12 → gC l G d MX3_readInto [.ref 4, .ref (b + 11), .int 0, .long 8323136] h1 (rI fun v7 h7 => (∃ cd7, h7.2.2 = gRF lk sp cd7) ∧ ((v7 = 0 ∨ v7 = 1) ∧ Q (some (.int v7)) h7))) ∧ ((h.1 1 6) = 13 → gC l G d MX3_readInto [.ref 4, .ref (b + 11), .int 1, .long 16711752] h1 (rI fun v8 h8 => (∃ cd8, h8.2.2 = gRF lk sp cd8) ∧ ((v8 = 0 ∨ v8 = 1) ∧ Q (some (.int v8)) h8))) ∧ ((h.1 1 6) = 14 → gC l G d MX3_readInto [.ref 4, .ref (b + 11), .int 2, .long 16711752] h1 (rI fun v9 h9 => (∃ cd9, h9.2.2 = gRF lk sp cd9) ∧ ((v9 = 0 ∨ v9 = 1) ∧ Q (some (.int v9)) h9))) ∧ ((h.1 1 6) = 15 → gC l G d MX7_readCoax [.ref 5, .ref b] h1 (rI fun v10 h10 => h10.2.2 = (h1).2.2 ∧ ((v10 = 0 ∨ v10 = 1) ∧ Q (some (.int v10)) h10))) ∧ (¬ (h.1 1 6) = 0 → ¬ (h.1 1 6) = 1 → ¬ (h.1 1 6) = 2 → ¬ (h.1 1 6) = 5 → ¬ (h.1 1 6) = 7 → ¬ (h.1 1 6) = 8 → ¬ (h.1 1 6) = 9 → ¬ (h.1 1 6) = 10 → ¬ (h.1 1 6) = 11 → ¬ (h.1 1 6) = 12 → ¬ (h.1 1 6) = 13 → ¬ (h.1 1 6) = 14 → ¬ (h.1 1 6) = 15 → gg p l e s m args below meth c G (d + 1) MX7_readStatement Q 238 [some (.ref 5), some (.ref b), some (.int (h.1 1 6))] [] h1))) ∧ (¬ v1 = 0 → gC l G d MX5_failHere [.ref 1, .int 5] h1 (rI fun v11 h11 => h11.2.2 = (h1).2.2 ∧ ((v11 = 0 ∨ v11 = 1) ∧ Q (some (.int v11)) h11)))))) ∧ (¬ y1 = y0 → gg p l e s m args below meth c G (d + 1) MX7_readStatement Q 35 [some (.ref 5), some (.ref b), none] [] h))) : gg p l e s m args below meth c G (d + 1) MX7_readStatement Q 32 [some (.ref 5), some (.ref b), none] [.int y0, .int y1] h := by
  refine go_icmp_eq 44 dX7_readStatement_32 rfl (fun q => ?_) (fun q => ?_)
  · replace vc := vc.1 q
    refine go_aload_n (x := 5) dX7_readStatement_44 rfl ?_
    refine go_getR (x := 1) dX7_readStatement_45 f7_9 sh5 (fun _ _ => rfl) (rf5_0 hR) ?_
    refine go_getI' (v := (h.1 1 6)) dX7_readStatement_48 f7_53 sh1 (fun _ _ => rfl) rfl ?_
    refine go_istore_n dX7_readStatement_51 (Nat.le_of_ble_eq_true rfl) ?_
    show gg p l e s m args below meth c G (d + 1) MX7_readStatement Q 52 [some (.ref 5), some (.ref b), some (.int (h.1 1 6))] [] h
    refine go_aload_n (x := b) dX7_readStatement_52 rfl ?_
    refine go_iload_n (x := (h.1 1 6)) dX7_readStatement_53 rfl ?_
    refine gsI2 MX7_isOneTooMany dX7_readStatement_54 lX7_56 kX7_isOneTooMany sX7_isOneTooMany (Nat.le_of_ble_eq_true rfl) vc ?_
    intro v1 h1 vc
    obtain ⟨hR1, vc⟩ := vc
    replace hR := hR1.trans hR
    refine go_if_eq 69 dX7_readStatement_57 rfl (fun q => ?_) (fun q => ?_)
    · replace vc := vc.1 q
      refine go_iload_n (x := (h.1 1 6)) dX7_readStatement_69 rfl ?_
      by_cases q0 : (h.1 1 6) = 0
      · refine go_tableIn (off := 78) 148 dX7_readStatement_70 (by rw [q0]; decide) (by rw [q0]; decide) (by rw [q0]; rfl) rfl ?_
        replace vc := vc.1 q0
        refine go_aload_n (x := 5) dX7_readStatement_148 rfl ?_
        refine go_aload_n (x := b) dX7_readStatement_149 rfl ?_
        refine gvI1 MX7_readColumns dX7_readStatement_150 lX7_60 kX7_readColumns vX7_readColumns sh5 (by decide) rfl (Nat.le_of_ble_eq_true rfl) vc ?_
        intro v2 h2 vc
        obtain ⟨hR2, vc⟩ := vc
        replace hR := hR2.trans hR
        exact go_zret dX7_readStatement_153 rfl vc.1 vc.2 rfl (Nat.le_refl _) (Nat.le_refl _)
      by_cases q1 : (h.1 1 6) = 1
      · refine go_tableIn (off := 84) 154 dX7_readStatement_70 (by rw [q1]; decide) (by rw [q1]; decide) (by rw [q1]; rfl) rfl ?_
        replace vc := vc.2.1 q1
        refine go_aload_n (x := 5) dX7_readStatement_154 rfl ?_
        refine go_aload_n (x := b) dX7_readStatement_155 rfl ?_
        refine gvI1 MX7_readRow dX7_readStatement_156 lX7_63 kX7_readRow vX7_readRow sh5 (by decide) rfl (Nat.le_of_ble_eq_true rfl) vc ?_
        intro v3 h3 vc
        obtain ⟨hR3, vc⟩ := vc
        replace hR := hR3.trans hR
        exact go_zret dX7_readStatement_159 rfl vc.1 vc.2 rfl (Nat.le_refl _) (Nat.le_refl _)
      by_cases q2 : (h.1 1 6) = 2
      · refine go_tableIn (off := 90) 160 dX7_readStatement_70 (by rw [q2]; decide) (by rw [q2]; decide) (by rw [q2]; rfl) rfl ?_
        replace vc := vc.2.2.1 q2
        refine go_aload_n (x := 5) dX7_readStatement_160 rfl ?_
        refine go_aload_n (x := b) dX7_readStatement_161 rfl ?_
        refine gvI1 MX7_readBoat dX7_readStatement_162 lX7_66 kX7_readBoat vX7_readBoat sh5 (by decide) rfl (Nat.le_of_ble_eq_true rfl) vc ?_
        intro v4 h4 vc
        obtain ⟨hR4, vc⟩ := vc
        replace hR := hR4.trans hR
        exact go_zret dX7_readStatement_165 rfl vc.1 vc.2 rfl (Nat.le_refl _) (Nat.le_refl _)
      by_cases q3 : (h.1 1 6) = 5
      · refine go_tableIn (off := 96) 166 dX7_readStatement_70 (by rw [q3]; decide) (by rw [q3]; decide) (by rw [q3]; rfl) rfl ?_
        replace vc := vc.2.2.2.1 q3
        refine go_aload_n (x := 5) dX7_readStatement_166 rfl ?_
        refine go_aload_n (x := b) dX7_readStatement_167 rfl ?_
        refine gvI1 MX7_readHand dX7_readStatement_168 lX7_69 kX7_readHand vX7_readHand sh5 (by decide) rfl (Nat.le_of_ble_eq_true rfl) vc ?_
        intro v5 h5 vc
        obtain ⟨hR5, vc⟩ := vc
        replace hR := hR5.trans hR
        exact go_zret dX7_readStatement_171 rfl vc.1 vc.2 rfl (Nat.le_refl _) (Nat.le_refl _)
      by_cases q4 : (h.1 1 6) = 7
      · refine go_tableIn (off := 102) 172 dX7_readStatement_70 (by rw [q4]; decide) (by rw [q4]; decide) (by rw [q4]; rfl) rfl ?_
        replace vc := vc.2.2.2.2.1 q4
        refine go_aload_n (x := 5) dX7_readStatement_172 rfl ?_
        refine go_aload_n (x := b) dX7_readStatement_173 rfl ?_
        refine gvI1 MX7_readLikes dX7_readStatement_174 lX7_72 kX7_readLikes vX7_readLikes sh5 (by decide) rfl (Nat.le_of_ble_eq_true rfl) vc ?_
        intro v6 h6 vc
        obtain ⟨hR6, vc⟩ := vc
        replace hR := hR6.trans hR
        exact go_zret dX7_readStatement_177 rfl vc.1 vc.2 rfl (Nat.le_refl _) (Nat.le_refl _)
      by_cases q5 : (h.1 1 6) = 8
      · refine go_tableIn (off := 108) 178 dX7_readStatement_70 (by rw [q5]; decide) (by rw [q5]; decide) (by rw [q5]; rfl) rfl ?_
        replace vc := vc.2.2.2.2.2.1 q5
        exact vc
      by_cases q6 : (h.1 1 6) = 9
      · refine go_tableIn (off := 108) 178 dX7_readStatement_70 (by rw [q6]; decide) (by rw [q6]; decide) (by rw [q6]; rfl) rfl ?_
        replace vc := vc.2.2.2.2.2.2.1 q6
        exact vc
      by_cases q7 : (h.1 1 6) = 10
      · refine go_tableIn (off := 108) 178 dX7_readStatement_70 (by rw [q7]; decide) (by rw [q7]; decide) (by rw [q7]; rfl) rfl ?_
        replace vc := vc.2.2.2.2.2.2.2.1 q7
        exact vc
      by_cases q8 : (h.1 1 6) = 11
      · refine go_tableIn (off := 108) 178 dX7_readStatement_70 (by rw [q8]; decide) (by rw [q8]; decide) (by rw [q8]; rfl) rfl ?_
        replace vc := vc.2.2.2.2.2.2.2.2.1 q8
        exact vc
      by_cases q9 : (h.1 1 6) = 12
      · refine go_tableIn (off := 114) 184 dX7_readStatement_70 (by rw [q9]; decide) (by rw [q9]; decide) (by rw [q9]; rfl) rfl ?_
        replace vc := vc.2.2.2.2.2.2.2.2.2.1 q9
        refine go_aload_n (x := 5) dX7_readStatement_184 rfl ?_
        refine go_getR (x := 4) dX7_readStatement_185 f7_15 sh5 (fun _ _ => rfl) (rf5_1 hR) ?_
        refine go_aload_n (x := b) dX7_readStatement_188 rfl ?_
        refine go_getR (x := (b + 11)) dX7_readStatement_189 f7_78 (slx hb) (fun _ _ => rfl) (rl_s hR hb (by decide)) ?_
        refine go_iconst (v := 0) dX7_readStatement_192 rfl ?_
        refine go_ldc2 (v := 8323136) dX7_readStatement_193 nX7_84 ?_
        refine gvI3 MX3_readInto dX7_readStatement_196 lX7_86 kX3_readInto vX3_readInto sh4 (by decide) rfl (Nat.le_of_ble_eq_true rfl) vc ?_
        intro v7 h7 vc
        obtain ⟨⟨cd7, hR⟩, vc⟩ := vc
        exact go_zret dX7_readStatement_199 rfl vc.1 vc.2 rfl (Nat.le_refl _) (Nat.le_refl _)
      by_cases q10 : (h.1 1 6) = 13
      · refine go_tableIn (off := 130) 200 dX7_readStatement_70 (by rw [q10]; decide) (by rw [q10]; decide) (by rw [q10]; rfl) rfl ?_
        replace vc := vc.2.2.2.2.2.2.2.2.2.2.1 q10
        refine go_aload_n (x := 5) dX7_readStatement_200 rfl ?_
        refine go_getR (x := 4) dX7_readStatement_201 f7_15 sh5 (fun _ _ => rfl) (rf5_1 hR) ?_
        refine go_aload_n (x := b) dX7_readStatement_204 rfl ?_
        refine go_getR (x := (b + 11)) dX7_readStatement_205 f7_78 (slx hb) (fun _ _ => rfl) (rl_s hR hb (by decide)) ?_
        refine go_iconst (v := 1) dX7_readStatement_208 rfl ?_
        refine go_ldc2 (v := 16711752) dX7_readStatement_209 nX7_90 ?_
        refine gvI3 MX3_readInto dX7_readStatement_212 lX7_86 kX3_readInto vX3_readInto sh4 (by decide) rfl (Nat.le_of_ble_eq_true rfl) vc ?_
        intro v8 h8 vc
        obtain ⟨⟨cd8, hR⟩, vc⟩ := vc
        exact go_zret dX7_readStatement_215 rfl vc.1 vc.2 rfl (Nat.le_refl _) (Nat.le_refl _)
      by_cases q11 : (h.1 1 6) = 14
      · refine go_tableIn (off := 146) 216 dX7_readStatement_70 (by rw [q11]; decide) (by rw [q11]; decide) (by rw [q11]; rfl) rfl ?_
        replace vc := vc.2.2.2.2.2.2.2.2.2.2.2.1 q11
        refine go_aload_n (x := 5) dX7_readStatement_216 rfl ?_
        refine go_getR (x := 4) dX7_readStatement_217 f7_15 sh5 (fun _ _ => rfl) (rf5_1 hR) ?_
        refine go_aload_n (x := b) dX7_readStatement_220 rfl ?_
        refine go_getR (x := (b + 11)) dX7_readStatement_221 f7_78 (slx hb) (fun _ _ => rfl) (rl_s hR hb (by decide)) ?_
        refine go_iconst (v := 2) dX7_readStatement_224 rfl ?_
        refine go_ldc2 (v := 16711752) dX7_readStatement_225 nX7_90 ?_
        refine gvI3 MX3_readInto dX7_readStatement_228 lX7_86 kX3_readInto vX3_readInto sh4 (by decide) rfl (Nat.le_of_ble_eq_true rfl) vc ?_
        intro v9 h9 vc
        obtain ⟨⟨cd9, hR⟩, vc⟩ := vc
        exact go_zret dX7_readStatement_231 rfl vc.1 vc.2 rfl (Nat.le_refl _) (Nat.le_refl _)
      by_cases q12 : (h.1 1 6) = 15
      · refine go_tableIn (off := 162) 232 dX7_readStatement_70 (by rw [q12]; decide) (by rw [q12]; decide) (by rw [q12]; rfl) rfl ?_
        replace vc := vc.2.2.2.2.2.2.2.2.2.2.2.2.1 q12
        refine go_aload_n (x := 5) dX7_readStatement_232 rfl ?_
        refine go_aload_n (x := b) dX7_readStatement_233 rfl ?_
        refine gvI1 MX7_readCoax dX7_readStatement_234 lX7_92 kX7_readCoax vX7_readCoax sh5 (by decide) rfl (Nat.le_of_ble_eq_true rfl) vc ?_
        intro v10 h10 vc
        obtain ⟨hR10, vc⟩ := vc
        replace hR := hR10.trans hR
        exact go_zret dX7_readStatement_237 rfl vc.1 vc.2 rfl (Nat.le_refl _) (Nat.le_refl _)
      replace vc := vc.2.2.2.2.2.2.2.2.2.2.2.2.2 q0 q1 q2 q3 q4 q5 q6 q7 q8 q9 q10 q11 q12
      by_cases r0 : (h.1 1 6) = 3
      · refine go_tableIn (off := 168) 238 dX7_readStatement_70 (by rw [r0]; decide) (by rw [r0]; decide) (by rw [r0]; rfl) rfl ?_
        exact vc
      by_cases r1 : (h.1 1 6) = 4
      · refine go_tableIn (off := 168) 238 dX7_readStatement_70 (by rw [r1]; decide) (by rw [r1]; decide) (by rw [r1]; rfl) rfl ?_
        exact vc
      by_cases r2 : (h.1 1 6) = 6
      · refine go_tableIn (off := 168) 238 dX7_readStatement_70 (by rw [r2]; decide) (by rw [r2]; decide) (by rw [r2]; rfl) rfl ?_
        exact vc
      refine go_tableOut 238 dX7_readStatement_70 ?_ rfl ?_
      · have e0 : ¬ ((h.1 1 6)).toInt = 0 := lv_neT q0 rfl; have e1 : ¬ ((h.1 1 6)).toInt = 1 := lv_neT q1 rfl; have e2 : ¬ ((h.1 1 6)).toInt = 2 := lv_neT q2 rfl; have e3 : ¬ ((h.1 1 6)).toInt = 5 := lv_neT q3 rfl; have e4 : ¬ ((h.1 1 6)).toInt = 7 := lv_neT q4 rfl; have e5 : ¬ ((h.1 1 6)).toInt = 8 := lv_neT q5 rfl; have e6 : ¬ ((h.1 1 6)).toInt = 9 := lv_neT q6 rfl; have e7 : ¬ ((h.1 1 6)).toInt = 10 := lv_neT q7 rfl; have e8 : ¬ ((h.1 1 6)).toInt = 11 := lv_neT q8 rfl; have e9 : ¬ ((h.1 1 6)).toInt = 12 := lv_neT q9 rfl; have e10 : ¬ ((h.1 1 6)).toInt = 13 := lv_neT q10 rfl; have e11 : ¬ ((h.1 1 6)).toInt = 14 := lv_neT q11 rfl; have e12 : ¬ ((h.1 1 6)).toInt = 15 := lv_neT q12 rfl; have e13 : ¬ ((h.1 1 6)).toInt = 3 := lv_neT r0 rfl; have e14 : ¬ ((h.1 1 6)).toInt = 4 := lv_neT r1 rfl; have e15 : ¬ ((h.1 1 6)).toInt = 6 := lv_neT r2 rfl
        omega
      exact vc
    · replace vc := vc.2 q
      refine go_aload_n (x := 5) dX7_readStatement_60 rfl ?_
      refine go_getR (x := 1) dX7_readStatement_61 f7_9 sh5 (fun _ _ => rfl) (rf5_0 hR) ?_
      refine go_iconst (v := 5) dX7_readStatement_64 rfl ?_
      refine gvI1 MX5_failHere dX7_readStatement_65 lX7_33 kX5_failHere vX5_failHere sh1 (by decide) rfl (Nat.le_of_ble_eq_true rfl) vc ?_
      intro v11 h11 vc
      obtain ⟨hR11, vc⟩ := vc
      replace hR := hR11.trans hR
      exact go_zret dX7_readStatement_68 rfl vc.1 vc.2 rfl (Nat.le_refl _) (Nat.le_refl _)
  · replace vc := vc.2 q
    exact vc
set_option maxRecDepth 20000 in
theorem wX7_readStatement_35 {p : Program} {l : Launch} {e : Env} {s : State} {m : MethodId} {args : Array Value} {below : List Frame} {meth : Method} {c : Code} {G : gG} {d : Nat} {Q : Option Value → gH → Prop} {h : gH} {lk sp : Nat} {cd : Option Nat} {b : Nat} (hR : h.2.2 = gRF lk sp cd) (hlk : lk = 30 ∨ lk = 67) (hsp : sp = 30 ∨ sp = 67) (hb : b = 30 ∨ b = 67) (vc : gC l G d MX5_failHere [.ref 1, .int 1] h (rI fun v1 h1 => h1.2.2 = (h).2.2 ∧ ((v1 = 0 ∨ v1 = 1) ∧ Q (some (.int v1)) h1))) : gg p l e s m args below meth c G (d + 1) MX7_readStatement Q 35 [some (.ref 5), some (.ref b), none] [] h := by
  refine go_aload_n (x := 5) dX7_readStatement_35 rfl ?_
  refine go_getR (x := 1) dX7_readStatement_36 f7_9 sh5 (fun _ _ => rfl) (rf5_0 hR) ?_
  refine go_iconst (v := 1) dX7_readStatement_39 rfl ?_
  refine gvI1 MX5_failHere dX7_readStatement_40 lX7_33 kX5_failHere vX5_failHere sh1 (by decide) rfl (Nat.le_of_ble_eq_true rfl) vc ?_
  intro v1 h1 vc
  obtain ⟨hR1, vc⟩ := vc
  replace hR := hR1.trans hR
  exact go_zret dX7_readStatement_43 rfl vc.1 vc.2 rfl (Nat.le_refl _) (Nat.le_refl _)
set_option maxRecDepth 20000 in
theorem wX7_readStatement_178 {p : Program} {l : Launch} {e : Env} {s : State} {m : MethodId} {args : Array Value} {below : List Frame} {meth : Method} {c : Code} {G : gG} {d : Nat} {Q : Option Value → gH → Prop} {h : gH} {lk sp : Nat} {cd : Option Nat} {b : Nat} {x2 : Int32} (hR : h.2.2 = gRF lk sp cd) (hlk : lk = 30 ∨ lk = 67) (hsp : sp = 30 ∨ sp = 67) (hb : b = 30 ∨ b = 67) (vc : gC l G d MX7_readSky [.ref 5, .ref b] h (rI fun v1 h1 => h1.2.2 = (h).2.2 ∧ ((v1 = 0 ∨ v1 = 1) ∧ Q (some (.int v1)) h1))) : gg p l e s m args below meth c G (d + 1) MX7_readStatement Q 178 [some (.ref 5), some (.ref b), some (.int x2)] [] h := by
  refine go_aload_n (x := 5) dX7_readStatement_178 rfl ?_
  refine go_aload_n (x := b) dX7_readStatement_179 rfl ?_
  refine gvI1 MX7_readSky dX7_readStatement_180 lX7_75 kX7_readSky vX7_readSky sh5 (by decide) rfl (Nat.le_of_ble_eq_true rfl) vc ?_
  intro v1 h1 vc
  obtain ⟨hR1, vc⟩ := vc
  replace hR := hR1.trans hR
  exact go_zret dX7_readStatement_183 rfl vc.1 vc.2 rfl (Nat.le_refl _) (Nat.le_refl _)
set_option maxRecDepth 20000 in
theorem wX7_readStatement_238 {p : Program} {l : Launch} {e : Env} {s : State} {m : MethodId} {args : Array Value} {below : List Frame} {meth : Method} {c : Code} {G : gG} {d : Nat} {Q : Option Value → gH → Prop} {h : gH} {lk sp : Nat} {cd : Option Nat} {b : Nat} {x2 : Int32} (hR : h.2.2 = gRF lk sp cd) (hlk : lk = 30 ∨ lk = 67) (hsp : sp = 30 ∨ sp = 67) (hb : b = 30 ∨ b = 67) (vc : gC l G d MX5_failHere [.ref 1, .int 1] h (rI fun v1 h1 => h1.2.2 = (h).2.2 ∧ ((v1 = 0 ∨ v1 = 1) ∧ Q (some (.int v1)) h1))) : gg p l e s m args below meth c G (d + 1) MX7_readStatement Q 238 [some (.ref 5), some (.ref b), some (.int x2)] [] h := by
  refine go_aload_n (x := 5) dX7_readStatement_238 rfl ?_
  refine go_getR (x := 1) dX7_readStatement_239 f7_9 sh5 (fun _ _ => rfl) (rf5_0 hR) ?_
  refine go_iconst (v := 1) dX7_readStatement_242 rfl ?_
  refine gvI1 MX5_failHere dX7_readStatement_243 lX7_33 kX5_failHere vX5_failHere sh1 (by decide) rfl (Nat.le_of_ble_eq_true rfl) vc ?_
  intro v1 h1 vc
  obtain ⟨hR1, vc⟩ := vc
  replace hR := hR1.trans hR
  exact go_zret dX7_readStatement_246 rfl vc.1 vc.2 rfl (Nat.le_refl _) (Nat.le_refl _)
