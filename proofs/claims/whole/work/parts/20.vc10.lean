set_option maxRecDepth 20000 in
theorem wX12_tries_0 {p : Program} {l : Launch} {e : Env} {s : State} {m : MethodId} {args : Array Value} {below : List Frame} {meth : Method} {c : Code} {G : gG} {d : Nat} {Q : Option Value → gH → Prop} {h : gH} {lk sp : Nat} {cd : Option Nat} {a1 : Int32} {a2 : Int32} {a3 : Int32} (hR : h.2.2 = gRF lk sp cd) (hlk : lk = 30 ∨ lk = 67) (hsp : sp = 30 ∨ sp = 67)  (vc : gC l G d MX12_wouldGo [.ref 82, .int a1, .int a2, .int a3] h (rI fun v1 h1 => h1.2.2 = (h).2.2 ∧ gC l G d MX12_learnt [.ref 82, .int a1, .int a2, .int a3, .int v1] h1 (rI fun v2 h2 => h2.2.2 = (h1).2.2 ∧ (vp_in (((2 + (4 * a1)) + 1)) 187 ∧ ((v1 = 0 → gC l G d MX12_balksOf [.ref 82, .int a1] (sI h2 133 (((2 + (4 * a1)) + 1) : Int32).toNatClampNeg v2) (rI fun v3 h3 => h3.2.2 = ((sI h2 133 (((2 + (4 * a1)) + 1) : Int32).toNatClampNeg v2)).2.2 ∧ ((99 ≤ v3 → gC l G d MX12_isKept [.ref 82, .int a1, .int a2, .int v1] h3 (rV fun h4 => h4.2.2 = (h3).2.2 ∧ ((v1 = 0 ∨ v1 = 1) ∧ Q (some (.int v1)) h4))) ∧ (¬ 99 ≤ v3 → (vp_in (((2 + (4 * a1)) + 2)) 187 ∧ (vp_in (((2 + (4 * a1)) + 2)) 187 ∧ gC l G d MX12_isKept [.ref 82, .int a1, .int a2, .int v1] (sI h3 133 (((2 + (4 * a1)) + 2) : Int32).toNatClampNeg ((h3.1 133 (((2 + (4 * a1)) + 2) : Int32).toNatClampNeg) + 1)) (rV fun h5 => h5.2.2 = ((sI h3 133 (((2 + (4 * a1)) + 2) : Int32).toNatClampNeg ((h3.1 133 (((2 + (4 * a1)) + 2) : Int32).toNatClampNeg) + 1))).2.2 ∧ ((v1 = 0 ∨ v1 = 1) ∧ Q (some (.int v1)) h5)))))))) ∧ (¬ v1 = 0 → (vp_in ((2 + (4 * a1))) 187 ∧ gC l G d MX12_isKept [.ref 82, .int a1, .int a2, .int v1] (sI (sI h2 133 (((2 + (4 * a1)) + 1) : Int32).toNatClampNeg v2) 133 ((2 + (4 * a1)) : Int32).toNatClampNeg a2) (rV fun h6 => h6.2.2 = ((sI (sI h2 133 (((2 + (4 * a1)) + 1) : Int32).toNatClampNeg v2) 133 ((2 + (4 * a1)) : Int32).toNatClampNeg a2)).2.2 ∧ ((v1 = 0 ∨ v1 = 1) ∧ Q (some (.int v1)) h6))))))))) : gg p l e s m args below meth c G (d + 1) MX12_tries Q 0 [some (.ref 82), some (.int a1), some (.int a2), some (.int a3), none, none] [] h := by
  refine go_aload_n (x := 82) dX12_tries_0 rfl ?_
  refine go_iload_n (x := a1) dX12_tries_1 rfl ?_
  refine go_iload_n (x := a2) dX12_tries_2 rfl ?_
  refine go_iload_n (x := a3) dX12_tries_3 rfl ?_
  refine gvI3 MX12_wouldGo dX12_tries_4 lX12_545 kX12_wouldGo vX12_wouldGo sh82 (by decide) rfl (Nat.le_of_ble_eq_true rfl) vc ?_
  intro v1 h1 vc
  obtain ⟨hR1, vc⟩ := vc
  replace hR := hR1.trans hR
  refine go_istore dX12_tries_7 (Nat.le_of_ble_eq_true rfl) ?_
  show gg p l e s m args below meth c G (d + 1) MX12_tries Q 9 [some (.ref 82), some (.int a1), some (.int a2), some (.int a3), some (.int v1), none] [] h1
  refine go_aload_n (x := 82) dX12_tries_9 rfl ?_
  refine go_iload_n (x := a1) dX12_tries_10 rfl ?_
  refine go_iload_n (x := a2) dX12_tries_11 rfl ?_
  refine go_iload_n (x := a3) dX12_tries_12 rfl ?_
  refine go_iload (x := v1) dX12_tries_13 rfl ?_
  refine gvI4 MX12_learnt dX12_tries_15 lX12_548 kX12_learnt vX12_learnt sh82 (by decide) rfl (Nat.le_of_ble_eq_true rfl) vc ?_
  intro v2 h2 vc
  obtain ⟨hR2, vc⟩ := vc
  replace hR := hR2.trans hR
  refine go_istore dX12_tries_18 (Nat.le_of_ble_eq_true rfl) ?_
  show gg p l e s m args below meth c G (d + 1) MX12_tries Q 20 [some (.ref 82), some (.int a1), some (.int a2), some (.int a3), some (.int v1), some (.int v2)] [] h2
  refine go_aload_n (x := 82) dX12_tries_20 rfl ?_
  refine go_getR (x := 133) dX12_tries_21 f12_166 sh82 (fun _ _ => rfl) (rf82_68 hR) ?_
  refine go_iconst (v := 2) dX12_tries_24 rfl ?_
  refine go_iconst (v := 4) dX12_tries_25 rfl ?_
  refine go_iload_n (x := a1) dX12_tries_26 rfl ?_
  refine go_imul dX12_tries_27 ?_
  refine go_iadd dX12_tries_28 ?_
  refine go_iconst (v := 1) dX12_tries_29 rfl ?_
  refine go_iadd dX12_tries_30 ?_
  refine go_iload (x := v2) dX12_tries_31 rfl ?_
  refine go_iast dX12_tries_33 sh133 vc.1 ?_
  have vc := vc.2
  show gg p l e s m args below meth c G (d + 1) MX12_tries Q 34 [some (.ref 82), some (.int a1), some (.int a2), some (.int a3), some (.int v1), some (.int v2)] [] (sI h2 133 (((2 + (4 * a1)) + 1) : Int32).toNatClampNeg v2)
  refine go_iload (x := v1) dX12_tries_34 rfl ?_
  refine go_if_eq 53 dX12_tries_36 rfl (fun q => ?_) (fun q => ?_)
  · replace vc := vc.1 q
    refine go_aload_n (x := 82) dX12_tries_53 rfl ?_
    refine go_iload_n (x := a1) dX12_tries_54 rfl ?_
    refine gvI1 MX12_balksOf dX12_tries_55 lX12_516 kX12_balksOf vX12_balksOf sh82 (by decide) rfl (Nat.le_of_ble_eq_true rfl) vc ?_
    intro v3 h3 vc
    obtain ⟨hR3, vc⟩ := vc
    replace hR := hR3.trans hR
    refine go_bipush (v := 99) dX12_tries_58 rfl ?_
    refine go_icmp_ge 79 dX12_tries_60 rfl (fun q => ?_) (fun q => ?_)
    · replace vc := vc.1 q
      refine go_aload_n (x := 82) dX12_tries_79 rfl ?_
      refine go_iload_n (x := a1) dX12_tries_80 rfl ?_
      refine go_iload_n (x := a2) dX12_tries_81 rfl ?_
      refine go_iload (x := v1) dX12_tries_82 rfl ?_
      refine gvV3 MX12_isKept dX12_tries_84 lX12_552 kX12_isKept vX12_isKept sh82 (by decide) rfl (Nat.le_of_ble_eq_true rfl) vc ?_
      intro h4 vc
      obtain ⟨hR4, vc⟩ := vc
      replace hR := hR4.trans hR
      refine go_iload (x := v1) dX12_tries_87 rfl ?_
      exact go_zret dX12_tries_89 rfl vc.1 vc.2 rfl (Nat.le_refl _) (Nat.le_refl _)
    · replace vc := vc.2 q
      refine go_aload_n (x := 82) dX12_tries_63 rfl ?_
      refine go_getR (x := 133) dX12_tries_64 f12_166 sh82 (fun _ _ => rfl) (rf82_68 hR) ?_
      refine go_iconst (v := 2) dX12_tries_67 rfl ?_
      refine go_iconst (v := 4) dX12_tries_68 rfl ?_
      refine go_iload_n (x := a1) dX12_tries_69 rfl ?_
      refine go_imul dX12_tries_70 ?_
      refine go_iadd dX12_tries_71 ?_
      refine go_iconst (v := 2) dX12_tries_72 rfl ?_
      refine go_iadd dX12_tries_73 ?_
      refine go_dup2 dX12_tries_74 rfl rfl ?_
      refine go_iald' (v := (h3.1 133 (((2 + (4 * a1)) + 2) : Int32).toNatClampNeg)) dX12_tries_75 sh133 vc.1 rfl ?_
      have vc := vc.2
      refine go_iconst (v := 1) dX12_tries_76 rfl ?_
      refine go_iadd dX12_tries_77 ?_
      refine go_iast dX12_tries_78 sh133 vc.1 ?_
      have vc := vc.2
      show gg p l e s m args below meth c G (d + 1) MX12_tries Q 79 [some (.ref 82), some (.int a1), some (.int a2), some (.int a3), some (.int v1), some (.int v2)] [] (sI h3 133 (((2 + (4 * a1)) + 2) : Int32).toNatClampNeg ((h3.1 133 (((2 + (4 * a1)) + 2) : Int32).toNatClampNeg) + 1))
      refine go_aload_n (x := 82) dX12_tries_79 rfl ?_
      refine go_iload_n (x := a1) dX12_tries_80 rfl ?_
      refine go_iload_n (x := a2) dX12_tries_81 rfl ?_
      refine go_iload (x := v1) dX12_tries_82 rfl ?_
      refine gvV3 MX12_isKept dX12_tries_84 lX12_552 kX12_isKept vX12_isKept sh82 (by decide) rfl (Nat.le_of_ble_eq_true rfl) vc ?_
      intro h5 vc
      obtain ⟨hR5, vc⟩ := vc
      replace hR := hR5.trans hR
      refine go_iload (x := v1) dX12_tries_87 rfl ?_
      exact go_zret dX12_tries_89 rfl vc.1 vc.2 rfl (Nat.le_refl _) (Nat.le_refl _)
  · replace vc := vc.2 q
    refine go_aload_n (x := 82) dX12_tries_39 rfl ?_
    refine go_getR (x := 133) dX12_tries_40 f12_166 sh82 (fun _ _ => rfl) (rf82_68 hR) ?_
    refine go_iconst (v := 2) dX12_tries_43 rfl ?_
    refine go_iconst (v := 4) dX12_tries_44 rfl ?_
    refine go_iload_n (x := a1) dX12_tries_45 rfl ?_
    refine go_imul dX12_tries_46 ?_
    refine go_iadd dX12_tries_47 ?_
    refine go_iload_n (x := a2) dX12_tries_48 rfl ?_
    refine go_iast dX12_tries_49 sh133 vc.1 ?_
    have vc := vc.2
    show gg p l e s m args below meth c G (d + 1) MX12_tries Q 50 [some (.ref 82), some (.int a1), some (.int a2), some (.int a3), some (.int v1), some (.int v2)] [] (sI (sI h2 133 (((2 + (4 * a1)) + 1) : Int32).toNatClampNeg v2) 133 ((2 + (4 * a1)) : Int32).toNatClampNeg a2)
    refine go_goto 79 dX12_tries_50 rfl ?_
    refine go_aload_n (x := 82) dX12_tries_79 rfl ?_
    refine go_iload_n (x := a1) dX12_tries_80 rfl ?_
    refine go_iload_n (x := a2) dX12_tries_81 rfl ?_
    refine go_iload (x := v1) dX12_tries_82 rfl ?_
    refine gvV3 MX12_isKept dX12_tries_84 lX12_552 kX12_isKept vX12_isKept sh82 (by decide) rfl (Nat.le_of_ble_eq_true rfl) vc ?_
    intro h6 vc
    obtain ⟨hR6, vc⟩ := vc
    replace hR := hR6.trans hR
    refine go_iload (x := v1) dX12_tries_87 rfl ?_
    exact go_zret dX12_tries_89 rfl vc.1 vc.2 rfl (Nat.le_refl _) (Nat.le_refl _)
set_option maxRecDepth 20000 in
theorem wX12_beside_0 {p : Program} {l : Launch} {e : Env} {s : State} {m : MethodId} {args : Array Value} {below : List Frame} {meth : Method} {c : Code} {G : gG} {d : Nat} {Q : Option Value → gH → Prop} {h : gH} {lk sp : Nat} {cd : Option Nat} {a1 : Int32} {a2 : Int32} (hR : h.2.2 = gRF lk sp cd) (hlk : lk = 30 ∨ lk = 67) (hsp : sp = 30 ∨ sp = 67)  (vc : gC l G d MX12_columns [.ref 82] h (rI fun v1 h1 => h1.2.2 = (h).2.2 ∧ (¬ v1 = 0 ∧ ((¬ a2 = 0 → ((¬ a2 = 1 → ((¬ a2 = 2 → (((a1 - a1 / v1 * v1) ≤ 0 → Q (some (.int (-1))) h1) ∧ (¬ (a1 - a1 / v1 * v1) ≤ 0 → Q (some (.int (a1 - 1))) h1))) ∧ (a2 = 2 → gC l G d MX12_columns [.ref 82] h1 (rI fun v2 h2 => h2.2.2 = (h1).2.2 ∧ gC l G d MX12_cellMany [.ref 82] h2 (rI fun v3 h3 => h3.2.2 = (h2).2.2 ∧ ((v3 ≤ (a1 + v2) → Q (some (.int (-1))) h3) ∧ (¬ v3 ≤ (a1 + v2) → gC l G d MX12_columns [.ref 82] h3 (rI fun v4 h4 => h4.2.2 = (h3).2.2 ∧ Q (some (.int (a1 + v4))) h4)))))))) ∧ (a2 = 1 → gC l G d MX12_columns [.ref 82] h1 (rI fun v5 h5 => h5.2.2 = (h1).2.2 ∧ ((v5 ≤ ((a1 - a1 / v1 * v1) + 1) → Q (some (.int (-1))) h5) ∧ (¬ v5 ≤ ((a1 - a1 / v1 * v1) + 1) → Q (some (.int (a1 + 1))) h5)))))) ∧ (a2 = 0 → gC l G d MX12_columns [.ref 82] h1 (rI fun v6 h6 => h6.2.2 = (h1).2.2 ∧ ((a1 < v6 → Q (some (.int (-1))) h6) ∧ (¬ a1 < v6 → gC l G d MX12_columns [.ref 82] h6 (rI fun v7 h7 => h7.2.2 = (h6).2.2 ∧ Q (some (.int (a1 - v7))) h7))))))))) : gg p l e s m args below meth c G (d + 1) MX12_beside Q 0 [some (.ref 82), some (.int a1), some (.int a2), none] [] h := by
  refine go_iload_n (x := a1) dX12_beside_0 rfl ?_
  refine go_aload_n (x := 82) dX12_beside_1 rfl ?_
  refine gvI0 MX12_columns dX12_beside_2 lX12_477 kX12_columns vX12_columns sh82 (by decide) rfl (Nat.le_of_ble_eq_true rfl) vc ?_
  intro v1 h1 vc
  obtain ⟨hR1, vc⟩ := vc
  replace hR := hR1.trans hR
  refine go_irem dX12_beside_5 vc.1 ?_
  have vc := vc.2
  refine go_istore_n dX12_beside_6 (Nat.le_of_ble_eq_true rfl) ?_
  show gg p l e s m args below meth c G (d + 1) MX12_beside Q 7 [some (.ref 82), some (.int a1), some (.int a2), some (.int (a1 - a1 / v1 * v1))] [] h1
  refine go_iload_n (x := a2) dX12_beside_7 rfl ?_
  refine go_if_ne 30 dX12_beside_8 rfl (fun q => ?_) (fun q => ?_)
  · replace vc := vc.1 q
    refine go_iload_n (x := a2) dX12_beside_30 rfl ?_
    refine go_iconst (v := 1) dX12_beside_31 rfl ?_
    refine go_icmp_ne 53 dX12_beside_32 rfl (fun q => ?_) (fun q => ?_)
    · replace vc := vc.1 q
      refine go_iload_n (x := a2) dX12_beside_53 rfl ?_
      refine go_iconst (v := 2) dX12_beside_54 rfl ?_
      refine go_icmp_ne 82 dX12_beside_55 rfl (fun q => ?_) (fun q => ?_)
      · replace vc := vc.1 q
        refine go_iload_n (x := (a1 - a1 / v1 * v1)) dX12_beside_82 rfl ?_
        refine go_if_le 92 dX12_beside_83 rfl (fun q => ?_) (fun q => ?_)
        · replace vc := vc.1 q
          refine go_iconst (v := (-1)) dX12_beside_92 rfl ?_
          exact go_iret dX12_beside_93 rfl vc rfl (Nat.le_refl _) (Nat.le_refl _)
        · replace vc := vc.2 q
          refine go_iload_n (x := a1) dX12_beside_86 rfl ?_
          refine go_iconst (v := 1) dX12_beside_87 rfl ?_
          refine go_isub dX12_beside_88 ?_
          refine go_goto 93 dX12_beside_89 rfl ?_
          exact go_iret dX12_beside_93 rfl vc rfl (Nat.le_refl _) (Nat.le_refl _)
      · replace vc := vc.2 q
        refine go_iload_n (x := a1) dX12_beside_58 rfl ?_
        refine go_aload_n (x := 82) dX12_beside_59 rfl ?_
        refine gvI0 MX12_columns dX12_beside_60 lX12_477 kX12_columns vX12_columns sh82 (by decide) rfl (Nat.le_of_ble_eq_true rfl) vc ?_
        intro v2 h2 vc
        obtain ⟨hR2, vc⟩ := vc
        replace hR := hR2.trans hR
        refine go_iadd dX12_beside_63 ?_
        refine go_aload_n (x := 82) dX12_beside_64 rfl ?_
        refine gvI0 MX12_cellMany dX12_beside_65 lX12_480 kX12_cellMany vX12_cellMany sh82 (by decide) rfl (Nat.le_of_ble_eq_true rfl) vc ?_
        intro v3 h3 vc
        obtain ⟨hR3, vc⟩ := vc
        replace hR := hR3.trans hR
        refine go_icmp_ge 80 dX12_beside_68 rfl (fun q => ?_) (fun q => ?_)
        · replace vc := vc.1 q
          refine go_iconst (v := (-1)) dX12_beside_80 rfl ?_
          exact go_iret dX12_beside_81 rfl vc rfl (Nat.le_refl _) (Nat.le_refl _)
        · replace vc := vc.2 q
          refine go_iload_n (x := a1) dX12_beside_71 rfl ?_
          refine go_aload_n (x := 82) dX12_beside_72 rfl ?_
          refine gvI0 MX12_columns dX12_beside_73 lX12_477 kX12_columns vX12_columns sh82 (by decide) rfl (Nat.le_of_ble_eq_true rfl) vc ?_
          intro v4 h4 vc
          obtain ⟨hR4, vc⟩ := vc
          replace hR := hR4.trans hR
          refine go_iadd dX12_beside_76 ?_
          refine go_goto 81 dX12_beside_77 rfl ?_
          exact go_iret dX12_beside_81 rfl vc rfl (Nat.le_refl _) (Nat.le_refl _)
    · replace vc := vc.2 q
      refine go_iload_n (x := (a1 - a1 / v1 * v1)) dX12_beside_35 rfl ?_
      refine go_iconst (v := 1) dX12_beside_36 rfl ?_
      refine go_iadd dX12_beside_37 ?_
      refine go_aload_n (x := 82) dX12_beside_38 rfl ?_
      refine gvI0 MX12_columns dX12_beside_39 lX12_477 kX12_columns vX12_columns sh82 (by decide) rfl (Nat.le_of_ble_eq_true rfl) vc ?_
      intro v5 h5 vc
      obtain ⟨hR5, vc⟩ := vc
      replace hR := hR5.trans hR
      refine go_icmp_ge 51 dX12_beside_42 rfl (fun q => ?_) (fun q => ?_)
      · replace vc := vc.1 q
        refine go_iconst (v := (-1)) dX12_beside_51 rfl ?_
        exact go_iret dX12_beside_52 rfl vc rfl (Nat.le_refl _) (Nat.le_refl _)
      · replace vc := vc.2 q
        refine go_iload_n (x := a1) dX12_beside_45 rfl ?_
        refine go_iconst (v := 1) dX12_beside_46 rfl ?_
        refine go_iadd dX12_beside_47 ?_
        refine go_goto 52 dX12_beside_48 rfl ?_
        exact go_iret dX12_beside_52 rfl vc rfl (Nat.le_refl _) (Nat.le_refl _)
  · replace vc := vc.2 q
    refine go_iload_n (x := a1) dX12_beside_11 rfl ?_
    refine go_aload_n (x := 82) dX12_beside_12 rfl ?_
    refine gvI0 MX12_columns dX12_beside_13 lX12_477 kX12_columns vX12_columns sh82 (by decide) rfl (Nat.le_of_ble_eq_true rfl) vc ?_
    intro v6 h6 vc
    obtain ⟨hR6, vc⟩ := vc
    replace hR := hR6.trans hR
    refine go_icmp_lt 28 dX12_beside_16 rfl (fun q => ?_) (fun q => ?_)
    · replace vc := vc.1 q
      refine go_iconst (v := (-1)) dX12_beside_28 rfl ?_
      exact go_iret dX12_beside_29 rfl vc rfl (Nat.le_refl _) (Nat.le_refl _)
    · replace vc := vc.2 q
      refine go_iload_n (x := a1) dX12_beside_19 rfl ?_
      refine go_aload_n (x := 82) dX12_beside_20 rfl ?_
      refine gvI0 MX12_columns dX12_beside_21 lX12_477 kX12_columns vX12_columns sh82 (by decide) rfl (Nat.le_of_ble_eq_true rfl) vc ?_
      intro v7 h7 vc
      obtain ⟨hR7, vc⟩ := vc
      replace hR := hR7.trans hR
      refine go_isub dX12_beside_24 ?_
      refine go_goto 29 dX12_beside_25 rfl ?_
      exact go_iret dX12_beside_29 rfl vc rfl (Nat.le_refl _) (Nat.le_refl _)
set_option maxRecDepth 20000 in
theorem wX12_isBeside_0 {p : Program} {l : Launch} {e : Env} {s : State} {m : MethodId} {args : Array Value} {below : List Frame} {meth : Method} {c : Code} {G : gG} {d : Nat} {Q : Option Value → gH → Prop} {h : gH} {lk sp : Nat} {cd : Option Nat} {a1 : Int32} {a2 : Int32} (hR : h.2.2 = gRF lk sp cd) (hlk : lk = 30 ∨ lk = 67) (hsp : sp = 30 ∨ sp = 67)  (vc : gC l G d MX12_isWater [.ref 82, .int a2] h (rI fun v1 h1 => h1.2.2 = (h).2.2 ∧ ((v1 = 0 → Q (some (.int 0)) h1) ∧ (¬ v1 = 0 → gC l G d MX12_offOf [.ref 82, .int a1, .int a2] h1 (rI fun v2 h2 => h2.2.2 = (h1).2.2 ∧ ((¬ v2 = 1 → Q (some (.int 0)) h2) ∧ (v2 = 1 → Q (some (.int 1)) h2))))))) : gg p l e s m args below meth c G (d + 1) MX12_isBeside Q 0 [some (.ref 82), some (.int a1), some (.int a2)] [] h := by
  refine go_aload_n (x := 82) dX12_isBeside_0 rfl ?_
  refine go_iload_n (x := a2) dX12_isBeside_1 rfl ?_
  refine gvI1 MX12_isWater dX12_isBeside_2 lX12_556 kX12_isWater vX12_isWater sh82 (by decide) rfl (Nat.le_of_ble_eq_true rfl) vc ?_
  intro v1 h1 vc
  obtain ⟨hR1, vc⟩ := vc
  replace hR := hR1.trans hR
  refine go_if_eq 22 dX12_isBeside_5 rfl (fun q => ?_) (fun q => ?_)
  · replace vc := vc.1 q
    refine go_iconst (v := 0) dX12_isBeside_22 rfl ?_
    exact go_zret dX12_isBeside_23 rfl (by decide) vc rfl (Nat.le_refl _) (Nat.le_refl _)
  · replace vc := vc.2 q
    refine go_aload_n (x := 82) dX12_isBeside_8 rfl ?_
    refine go_iload_n (x := a1) dX12_isBeside_9 rfl ?_
    refine go_iload_n (x := a2) dX12_isBeside_10 rfl ?_
    refine gvI2 MX12_offOf dX12_isBeside_11 lX12_501 kX12_offOf vX12_offOf sh82 (by decide) rfl (Nat.le_of_ble_eq_true rfl) vc ?_
    intro v2 h2 vc
    obtain ⟨hR2, vc⟩ := vc
    replace hR := hR2.trans hR
    refine go_iconst (v := 1) dX12_isBeside_14 rfl ?_
    refine go_icmp_ne 22 dX12_isBeside_15 rfl (fun q => ?_) (fun q => ?_)
    · replace vc := vc.1 q
      refine go_iconst (v := 0) dX12_isBeside_22 rfl ?_
      exact go_zret dX12_isBeside_23 rfl (by decide) vc rfl (Nat.le_refl _) (Nat.le_refl _)
    · replace vc := vc.2 q
      refine go_iconst (v := 1) dX12_isBeside_18 rfl ?_
      refine go_goto 23 dX12_isBeside_19 rfl ?_
      exact go_zret dX12_isBeside_23 rfl (by decide) vc rfl (Nat.le_refl _) (Nat.le_refl _)
set_option maxRecDepth 20000 in
theorem wX12_putsAside_0 {p : Program} {l : Launch} {e : Env} {s : State} {m : MethodId} {args : Array Value} {below : List Frame} {meth : Method} {c : Code} {G : gG} {d : Nat} {Q : Option Value → gH → Prop} {h : gH} {lk sp : Nat} {cd : Option Nat}  (hR : h.2.2 = gRF lk sp cd) (hlk : lk = 30 ∨ lk = 67) (hsp : sp = 30 ∨ sp = 67)  (vc : gg p l e s m args below meth c G d MX12_putsAside Q 2 [some (.ref 82), some (.int 0)] [] h) : gg p l e s m args below meth c G d MX12_putsAside Q 0 [some (.ref 82), none] [] h := by
  refine go_iconst (v := 0) dX12_putsAside_0 rfl ?_
  refine go_istore_n dX12_putsAside_1 (Nat.le_of_ble_eq_true rfl) ?_
  show gg p l e s m args below meth c G d MX12_putsAside Q 2 [some (.ref 82), some (.int 0)] [] h
  exact vc
set_option maxRecDepth 20000 in
theorem wX12_putsAside_2 {p : Program} {l : Launch} {e : Env} {s : State} {m : MethodId} {args : Array Value} {below : List Frame} {meth : Method} {c : Code} {G : gG} {d : Nat} {Q : Option Value → gH → Prop} {h : gH} {lk sp : Nat} {cd : Option Nat} {x1 : Int32} (hR : h.2.2 = gRF lk sp cd) (hlk : lk = 30 ∨ lk = 67) (hsp : sp = 30 ∨ sp = 67)  (vc : ((187 ≤ x1 → Q none h) ∧ (¬ 187 ≤ x1 → (vp_in x1 187 ∧ (vp_in x1 187 ∧ gg p l e s m args below meth c G d MX12_putsAside Q 2 [some (.ref 82), some (.int (x1 + 1))] [] (sI h 134 x1.toNatClampNeg (h.1 133 x1.toNatClampNeg))))))) : gg p l e s m args below meth c G d MX12_putsAside Q 2 [some (.ref 82), some (.int x1)] [] h := by
  refine go_iload_n (x := x1) dX12_putsAside_2 rfl ?_
  refine go_sipush (v := 187) dX12_putsAside_3 rfl ?_
  refine go_icmp_ge 27 dX12_putsAside_6 rfl (fun q => ?_) (fun q => ?_)
  · replace vc := vc.1 q
    exact go_vret dX12_putsAside_27 rfl vc rfl (Nat.le_refl _) (Nat.le_refl _)
  · replace vc := vc.2 q
    refine go_aload_n (x := 82) dX12_putsAside_9 rfl ?_
    refine go_getR (x := 134) dX12_putsAside_10 f12_169 sh82 (fun _ _ => rfl) (rf82_69 hR) ?_
    refine go_iload_n (x := x1) dX12_putsAside_13 rfl ?_
    refine go_aload_n (x := 82) dX12_putsAside_14 rfl ?_
    refine go_getR (x := 133) dX12_putsAside_15 f12_166 sh82 (fun _ _ => rfl) (rf82_68 hR) ?_
    refine go_iload_n (x := x1) dX12_putsAside_18 rfl ?_
    refine go_iald' (v := (h.1 133 x1.toNatClampNeg)) dX12_putsAside_19 sh133 vc.1 rfl ?_
    have vc := vc.2
    refine go_iast dX12_putsAside_20 sh134 vc.1 ?_
    have vc := vc.2
    show gg p l e s m args below meth c G d MX12_putsAside Q 21 [some (.ref 82), some (.int x1)] [] (sI h 134 x1.toNatClampNeg (h.1 133 x1.toNatClampNeg))
    refine go_iinc (x := x1) dX12_putsAside_21 rfl ?_
    show gg p l e s m args below meth c G d MX12_putsAside Q 24 [some (.ref 82), some (.int (x1 + 1))] [] (sI h 134 x1.toNatClampNeg (h.1 133 x1.toNatClampNeg))
    refine go_goto 2 dX12_putsAside_24 rfl ?_
    exact vc
set_option maxRecDepth 20000 in
theorem wX12_takesBack_0 {p : Program} {l : Launch} {e : Env} {s : State} {m : MethodId} {args : Array Value} {below : List Frame} {meth : Method} {c : Code} {G : gG} {d : Nat} {Q : Option Value → gH → Prop} {h : gH} {lk sp : Nat} {cd : Option Nat}  (hR : h.2.2 = gRF lk sp cd) (hlk : lk = 30 ∨ lk = 67) (hsp : sp = 30 ∨ sp = 67)  (vc : gg p l e s m args below meth c G d MX12_takesBack Q 2 [some (.ref 82), some (.int 0)] [] h) : gg p l e s m args below meth c G d MX12_takesBack Q 0 [some (.ref 82), none] [] h := by
  refine go_iconst (v := 0) dX12_takesBack_0 rfl ?_
  refine go_istore_n dX12_takesBack_1 (Nat.le_of_ble_eq_true rfl) ?_
  show gg p l e s m args below meth c G d MX12_takesBack Q 2 [some (.ref 82), some (.int 0)] [] h
  exact vc
set_option maxRecDepth 20000 in
theorem wX12_takesBack_2 {p : Program} {l : Launch} {e : Env} {s : State} {m : MethodId} {args : Array Value} {below : List Frame} {meth : Method} {c : Code} {G : gG} {d : Nat} {Q : Option Value → gH → Prop} {h : gH} {lk sp : Nat} {cd : Option Nat} {x1 : Int32} (hR : h.2.2 = gRF lk sp cd) (hlk : lk = 30 ∨ lk = 67) (hsp : sp = 30 ∨ sp = 67)  (vc : ((187 ≤ x1 → Q none h) ∧ (¬ 187 ≤ x1 → (vp_in x1 187 ∧ (vp_in x1 187 ∧ gg p l e s m args below meth c G d MX12_takesBack Q 2 [some (.ref 82), some (.int (x1 + 1))] [] (sI h 133 x1.toNatClampNeg (h.1 134 x1.toNatClampNeg))))))) : gg p l e s m args below meth c G d MX12_takesBack Q 2 [some (.ref 82), some (.int x1)] [] h := by
  refine go_iload_n (x := x1) dX12_takesBack_2 rfl ?_
  refine go_sipush (v := 187) dX12_takesBack_3 rfl ?_
  refine go_icmp_ge 27 dX12_takesBack_6 rfl (fun q => ?_) (fun q => ?_)
  · replace vc := vc.1 q
    exact go_vret dX12_takesBack_27 rfl vc rfl (Nat.le_refl _) (Nat.le_refl _)
  · replace vc := vc.2 q
    refine go_aload_n (x := 82) dX12_takesBack_9 rfl ?_
    refine go_getR (x := 133) dX12_takesBack_10 f12_166 sh82 (fun _ _ => rfl) (rf82_68 hR) ?_
    refine go_iload_n (x := x1) dX12_takesBack_13 rfl ?_
    refine go_aload_n (x := 82) dX12_takesBack_14 rfl ?_
    refine go_getR (x := 134) dX12_takesBack_15 f12_169 sh82 (fun _ _ => rfl) (rf82_69 hR) ?_
    refine go_iload_n (x := x1) dX12_takesBack_18 rfl ?_
    refine go_iald' (v := (h.1 134 x1.toNatClampNeg)) dX12_takesBack_19 sh134 vc.1 rfl ?_
    have vc := vc.2
    refine go_iast dX12_takesBack_20 sh133 vc.1 ?_
    have vc := vc.2
    show gg p l e s m args below meth c G d MX12_takesBack Q 21 [some (.ref 82), some (.int x1)] [] (sI h 133 x1.toNatClampNeg (h.1 134 x1.toNatClampNeg))
    refine go_iinc (x := x1) dX12_takesBack_21 rfl ?_
    show gg p l e s m args below meth c G d MX12_takesBack Q 24 [some (.ref 82), some (.int (x1 + 1))] [] (sI h 133 x1.toNatClampNeg (h.1 134 x1.toNatClampNeg))
    refine go_goto 2 dX12_takesBack_24 rfl ?_
    exact vc
set_option maxRecDepth 20000 in
theorem wX12_sumOf_0 {p : Program} {l : Launch} {e : Env} {s : State} {m : MethodId} {args : Array Value} {below : List Frame} {meth : Method} {c : Code} {G : gG} {d : Nat} {Q : Option Value → gH → Prop} {h : gH} {lk sp : Nat} {cd : Option Nat} {a1 : Int32} (hR : h.2.2 = gRF lk sp cd) (hlk : lk = 30 ∨ lk = 67) (hsp : sp = 30 ∨ sp = 67)  (vc : gg p l e s m args below meth c G (d + 1) MX12_sumOf Q 4 [some (.ref 82), some (.int a1), some (.int 0), some (.int 0)] [] h) : gg p l e s m args below meth c G (d + 1) MX12_sumOf Q 0 [some (.ref 82), some (.int a1), none, none] [] h := by
  refine go_iconst (v := 0) dX12_sumOf_0 rfl ?_
  refine go_istore_n dX12_sumOf_1 (Nat.le_of_ble_eq_true rfl) ?_
  show gg p l e s m args below meth c G (d + 1) MX12_sumOf Q 2 [some (.ref 82), some (.int a1), some (.int 0), none] [] h
  refine go_iconst (v := 0) dX12_sumOf_2 rfl ?_
  refine go_istore_n dX12_sumOf_3 (Nat.le_of_ble_eq_true rfl) ?_
  show gg p l e s m args below meth c G (d + 1) MX12_sumOf Q 4 [some (.ref 82), some (.int a1), some (.int 0), some (.int 0)] [] h
  exact vc
set_option maxRecDepth 20000 in
theorem wX12_sumOf_4 {p : Program} {l : Launch} {e : Env} {s : State} {m : MethodId} {args : Array Value} {below : List Frame} {meth : Method} {c : Code} {G : gG} {d : Nat} {Q : Option Value → gH → Prop} {h : gH} {lk sp : Nat} {cd : Option Nat} {x1 : Int32} {x2 : Int32} {x3 : Int32} (hR : h.2.2 = gRF lk sp cd) (hlk : lk = 30 ∨ lk = 67) (hsp : sp = 30 ∨ sp = 67)  (vc : gC l G d MX12_boatMany [.ref 82] h (rI fun v1 h1 => h1.2.2 = (h).2.2 ∧ ((v1 ≤ x3 → Q (some (.int x2)) h1) ∧ (¬ v1 ≤ x3 → ((¬ x1 = 7 → gC l G d MX12_trustOf [.ref 82, .int x3] h1 (rI fun v2 h2 => h2.2.2 = (h1).2.2 ∧ gg p l e s m args below meth c G (d + 1) MX12_sumOf Q 4 [some (.ref 82), some (.int x1), some (.int (x2 + v2)), some (.int (x3 + 1))] [] h2)) ∧ (x1 = 7 → gC l G d MX12_balksOf [.ref 82, .int x3] h1 (rI fun v3 h3 => h3.2.2 = (h1).2.2 ∧ gg p l e s m args below meth c G (d + 1) MX12_sumOf Q 4 [some (.ref 82), some (.int x1), some (.int (x2 + v3)), some (.int (x3 + 1))] [] h3))))))) : gg p l e s m args below meth c G (d + 1) MX12_sumOf Q 4 [some (.ref 82), some (.int x1), some (.int x2), some (.int x3)] [] h := by
  refine go_iload_n (x := x3) dX12_sumOf_4 rfl ?_
  refine go_aload_n (x := 82) dX12_sumOf_5 rfl ?_
  refine gvI0 MX12_boatMany dX12_sumOf_6 lX12_483 kX12_boatMany vX12_boatMany sh82 (by decide) rfl (Nat.le_of_ble_eq_true rfl) vc ?_
  intro v1 h1 vc
  obtain ⟨hR1, vc⟩ := vc
  replace hR := hR1.trans hR
  refine go_icmp_ge 40 dX12_sumOf_9 rfl (fun q => ?_) (fun q => ?_)
  · replace vc := vc.1 q
    refine go_iload_n (x := x2) dX12_sumOf_40 rfl ?_
    exact go_iret dX12_sumOf_41 rfl vc rfl (Nat.le_refl _) (Nat.le_refl _)
  · replace vc := vc.2 q
    refine go_iload_n (x := x2) dX12_sumOf_12 rfl ?_
    refine go_iload_n (x := x1) dX12_sumOf_13 rfl ?_
    refine go_bipush (v := 7) dX12_sumOf_14 rfl ?_
    refine go_icmp_ne 27 dX12_sumOf_16 rfl (fun q => ?_) (fun q => ?_)
    · replace vc := vc.1 q
      refine go_aload_n (x := 82) dX12_sumOf_27 rfl ?_
      refine go_iload_n (x := x3) dX12_sumOf_28 rfl ?_
      refine gvI1 MX12_trustOf dX12_sumOf_29 lX12_522 kX12_trustOf vX12_trustOf sh82 (by decide) rfl (Nat.le_of_ble_eq_true rfl) vc ?_
      intro v2 h2 vc
      obtain ⟨hR2, vc⟩ := vc
      replace hR := hR2.trans hR
      refine go_iadd dX12_sumOf_32 ?_
      refine go_istore_n dX12_sumOf_33 (Nat.le_of_ble_eq_true rfl) ?_
      show gg p l e s m args below meth c G (d + 1) MX12_sumOf Q 34 [some (.ref 82), some (.int x1), some (.int (x2 + v2)), some (.int x3)] [] h2
      refine go_iinc (x := x3) dX12_sumOf_34 rfl ?_
      show gg p l e s m args below meth c G (d + 1) MX12_sumOf Q 37 [some (.ref 82), some (.int x1), some (.int (x2 + v2)), some (.int (x3 + 1))] [] h2
      refine go_goto 4 dX12_sumOf_37 rfl ?_
      exact vc
    · replace vc := vc.2 q
      refine go_aload_n (x := 82) dX12_sumOf_19 rfl ?_
      refine go_iload_n (x := x3) dX12_sumOf_20 rfl ?_
      refine gvI1 MX12_balksOf dX12_sumOf_21 lX12_516 kX12_balksOf vX12_balksOf sh82 (by decide) rfl (Nat.le_of_ble_eq_true rfl) vc ?_
      intro v3 h3 vc
      obtain ⟨hR3, vc⟩ := vc
      replace hR := hR3.trans hR
      refine go_goto 32 dX12_sumOf_24 rfl ?_
      refine go_iadd dX12_sumOf_32 ?_
      refine go_istore_n dX12_sumOf_33 (Nat.le_of_ble_eq_true rfl) ?_
      show gg p l e s m args below meth c G (d + 1) MX12_sumOf Q 34 [some (.ref 82), some (.int x1), some (.int (x2 + v3)), some (.int x3)] [] h3
      refine go_iinc (x := x3) dX12_sumOf_34 rfl ?_
      show gg p l e s m args below meth c G (d + 1) MX12_sumOf Q 37 [some (.ref 82), some (.int x1), some (.int (x2 + v3)), some (.int (x3 + 1))] [] h3
      refine go_goto 4 dX12_sumOf_37 rfl ?_
      exact vc
set_option maxRecDepth 20000 in
theorem wX12_has_0 {p : Program} {l : Launch} {e : Env} {s : State} {m : MethodId} {args : Array Value} {below : List Frame} {meth : Method} {c : Code} {G : gG} {d : Nat} {Q : Option Value → gH → Prop} {h : gH} {lk sp : Nat} {cd : Option Nat} {a1 : Int32} (hR : h.2.2 = gRF lk sp cd) (hlk : lk = 30 ∨ lk = 67) (hsp : sp = 30 ∨ sp = 67)  (vc : ((a1 = 0 → (vp_in ((5 + a1)) 10 ∧ Q (some (.int (h.1 119 ((5 + a1) : Int32).toNatClampNeg))) h)) ∧ (a1 = 1 → (vp_in ((5 + a1)) 10 ∧ Q (some (.int (h.1 119 ((5 + a1) : Int32).toNatClampNeg))) h)) ∧ (a1 = 2 → (vp_in ((5 + a1)) 10 ∧ Q (some (.int (h.1 119 ((5 + a1) : Int32).toNatClampNeg))) h)) ∧ (a1 = 3 → (vp_in ((5 + a1)) 10 ∧ Q (some (.int (h.1 119 ((5 + a1) : Int32).toNatClampNeg))) h)) ∧ (a1 = 4 → Q (some (.int (h.1 133 0))) h) ∧ (a1 = 5 → gC l G d MX12_skyIn [.ref 82, .int (h.1 133 0)] h (rI fun v1 h1 => h1.2.2 = (h).2.2 ∧ Q (some (.int v1)) h1)) ∧ (a1 = 6 → Q (some (.int (h.1 133 1))) h) ∧ (a1 = 7 → gC l G d MX12_sumOf [.ref 82, .int a1] h (rI fun v2 h2 => h2.2.2 = (h).2.2 ∧ Q (some (.int v2)) h2)) ∧ (a1 = 8 → gC l G d MX12_sumOf [.ref 82, .int a1] h (rI fun v3 h3 => h3.2.2 = (h).2.2 ∧ Q (some (.int v3)) h3)) ∧ (a1 = 9 → Q (some (.int (h.1 133 26))) h) ∧ (a1 = 10 → Q (some (.int (h.1 82 76))) h) ∧ (a1 = 11 → Q (some (.int (h.1 82 80))) h) ∧ (¬ a1 = 0 → ¬ a1 = 1 → ¬ a1 = 2 → ¬ a1 = 3 → ¬ a1 = 4 → ¬ a1 = 5 → ¬ a1 = 6 → ¬ a1 = 7 → ¬ a1 = 8 → ¬ a1 = 9 → ¬ a1 = 10 → ¬ a1 = 11 → Q (some (.int (-1))) h))) : gg p l e s m args below meth c G (d + 1) MX12_has Q 0 [some (.ref 82), some (.int a1)] [] h := by
  refine go_iload_n (x := a1) dX12_has_0 rfl ?_
  by_cases q0 : a1 = 0
  · refine go_tableIn (off := 63) 64 dX12_has_1 (by rw [q0]; decide) (by rw [q0]; decide) (by rw [q0]; rfl) rfl ?_
    replace vc := vc.1 q0
    refine go_aload_n (x := 82) dX12_has_64 rfl ?_
    refine go_getR (x := 119) dX12_has_65 f12_123 sh82 (fun _ _ => rfl) (rf82_46 hR) ?_
    refine go_iconst (v := 5) dX12_has_68 rfl ?_
    refine go_iload_n (x := a1) dX12_has_69 rfl ?_
    refine go_iadd dX12_has_70 ?_
    refine go_iald' (v := (h.1 119 ((5 + a1) : Int32).toNatClampNeg)) dX12_has_71 sh119 vc.1 rfl ?_
    have vc := vc.2
    exact go_iret dX12_has_72 rfl vc rfl (Nat.le_refl _) (Nat.le_refl _)
  by_cases q1 : a1 = 1
  · refine go_tableIn (off := 63) 64 dX12_has_1 (by rw [q1]; decide) (by rw [q1]; decide) (by rw [q1]; rfl) rfl ?_
    replace vc := vc.2.1 q1
    refine go_aload_n (x := 82) dX12_has_64 rfl ?_
    refine go_getR (x := 119) dX12_has_65 f12_123 sh82 (fun _ _ => rfl) (rf82_46 hR) ?_
    refine go_iconst (v := 5) dX12_has_68 rfl ?_
    refine go_iload_n (x := a1) dX12_has_69 rfl ?_
    refine go_iadd dX12_has_70 ?_
    refine go_iald' (v := (h.1 119 ((5 + a1) : Int32).toNatClampNeg)) dX12_has_71 sh119 vc.1 rfl ?_
    have vc := vc.2
    exact go_iret dX12_has_72 rfl vc rfl (Nat.le_refl _) (Nat.le_refl _)
  by_cases q2 : a1 = 2
  · refine go_tableIn (off := 63) 64 dX12_has_1 (by rw [q2]; decide) (by rw [q2]; decide) (by rw [q2]; rfl) rfl ?_
    replace vc := vc.2.2.1 q2
    refine go_aload_n (x := 82) dX12_has_64 rfl ?_
    refine go_getR (x := 119) dX12_has_65 f12_123 sh82 (fun _ _ => rfl) (rf82_46 hR) ?_
    refine go_iconst (v := 5) dX12_has_68 rfl ?_
    refine go_iload_n (x := a1) dX12_has_69 rfl ?_
    refine go_iadd dX12_has_70 ?_
    refine go_iald' (v := (h.1 119 ((5 + a1) : Int32).toNatClampNeg)) dX12_has_71 sh119 vc.1 rfl ?_
    have vc := vc.2
    exact go_iret dX12_has_72 rfl vc rfl (Nat.le_refl _) (Nat.le_refl _)
  by_cases q3 : a1 = 3
  · refine go_tableIn (off := 63) 64 dX12_has_1 (by rw [q3]; decide) (by rw [q3]; decide) (by rw [q3]; rfl) rfl ?_
    replace vc := vc.2.2.2.1 q3
    refine go_aload_n (x := 82) dX12_has_64 rfl ?_
    refine go_getR (x := 119) dX12_has_65 f12_123 sh82 (fun _ _ => rfl) (rf82_46 hR) ?_
    refine go_iconst (v := 5) dX12_has_68 rfl ?_
    refine go_iload_n (x := a1) dX12_has_69 rfl ?_
    refine go_iadd dX12_has_70 ?_
    refine go_iald' (v := (h.1 119 ((5 + a1) : Int32).toNatClampNeg)) dX12_has_71 sh119 vc.1 rfl ?_
    have vc := vc.2
    exact go_iret dX12_has_72 rfl vc rfl (Nat.le_refl _) (Nat.le_refl _)
  by_cases q4 : a1 = 4
  · refine go_tableIn (off := 72) 73 dX12_has_1 (by rw [q4]; decide) (by rw [q4]; decide) (by rw [q4]; rfl) rfl ?_
    replace vc := vc.2.2.2.2.1 q4
    refine go_aload_n (x := 82) dX12_has_73 rfl ?_
    refine go_getR (x := 133) dX12_has_74 f12_166 sh82 (fun _ _ => rfl) (rf82_68 hR) ?_
    refine go_iconst (v := 0) dX12_has_77 rfl ?_
    refine go_iald' (v := (h.1 133 0)) dX12_has_78 sh133 (by unfold vp_in; decide) rfl ?_
    exact go_iret dX12_has_79 rfl vc rfl (Nat.le_refl _) (Nat.le_refl _)
  by_cases q5 : a1 = 5
  · refine go_tableIn (off := 79) 80 dX12_has_1 (by rw [q5]; decide) (by rw [q5]; decide) (by rw [q5]; rfl) rfl ?_
    replace vc := vc.2.2.2.2.2.1 q5
    refine go_aload_n (x := 82) dX12_has_80 rfl ?_
    refine go_aload_n (x := 82) dX12_has_81 rfl ?_
    refine go_getR (x := 133) dX12_has_82 f12_166 sh82 (fun _ _ => rfl) (rf82_68 hR) ?_
    refine go_iconst (v := 0) dX12_has_85 rfl ?_
    refine go_iald' (v := (h.1 133 0)) dX12_has_86 sh133 (by unfold vp_in; decide) rfl ?_
    refine gvI1 MX12_skyIn dX12_has_87 lX12_513 kX12_skyIn vX12_skyIn sh82 (by decide) rfl (Nat.le_of_ble_eq_true rfl) vc ?_
    intro v1 h1 vc
    obtain ⟨hR1, vc⟩ := vc
    replace hR := hR1.trans hR
    exact go_iret dX12_has_90 rfl vc rfl (Nat.le_refl _) (Nat.le_refl _)
  by_cases q6 : a1 = 6
  · refine go_tableIn (off := 90) 91 dX12_has_1 (by rw [q6]; decide) (by rw [q6]; decide) (by rw [q6]; rfl) rfl ?_
    replace vc := vc.2.2.2.2.2.2.1 q6
    refine go_aload_n (x := 82) dX12_has_91 rfl ?_
    refine go_getR (x := 133) dX12_has_92 f12_166 sh82 (fun _ _ => rfl) (rf82_68 hR) ?_
    refine go_iconst (v := 1) dX12_has_95 rfl ?_
    refine go_iald' (v := (h.1 133 1)) dX12_has_96 sh133 (by unfold vp_in; decide) rfl ?_
    exact go_iret dX12_has_97 rfl vc rfl (Nat.le_refl _) (Nat.le_refl _)
  by_cases q7 : a1 = 7
  · refine go_tableIn (off := 97) 98 dX12_has_1 (by rw [q7]; decide) (by rw [q7]; decide) (by rw [q7]; rfl) rfl ?_
    replace vc := vc.2.2.2.2.2.2.2.1 q7
    refine go_aload_n (x := 82) dX12_has_98 rfl ?_
    refine go_iload_n (x := a1) dX12_has_99 rfl ?_
    refine gvI1 MX12_sumOf dX12_has_100 lX12_559 kX12_sumOf vX12_sumOf sh82 (by decide) rfl (Nat.le_of_ble_eq_true rfl) vc ?_
    intro v2 h2 vc
    obtain ⟨hR2, vc⟩ := vc
    replace hR := hR2.trans hR
    exact go_iret dX12_has_103 rfl vc rfl (Nat.le_refl _) (Nat.le_refl _)
  by_cases q8 : a1 = 8
  · refine go_tableIn (off := 97) 98 dX12_has_1 (by rw [q8]; decide) (by rw [q8]; decide) (by rw [q8]; rfl) rfl ?_
    replace vc := vc.2.2.2.2.2.2.2.2.1 q8
    refine go_aload_n (x := 82) dX12_has_98 rfl ?_
    refine go_iload_n (x := a1) dX12_has_99 rfl ?_
    refine gvI1 MX12_sumOf dX12_has_100 lX12_559 kX12_sumOf vX12_sumOf sh82 (by decide) rfl (Nat.le_of_ble_eq_true rfl) vc ?_
    intro v3 h3 vc
    obtain ⟨hR3, vc⟩ := vc
    replace hR := hR3.trans hR
    exact go_iret dX12_has_103 rfl vc rfl (Nat.le_refl _) (Nat.le_refl _)
  by_cases q9 : a1 = 9
  · refine go_tableIn (off := 103) 104 dX12_has_1 (by rw [q9]; decide) (by rw [q9]; decide) (by rw [q9]; rfl) rfl ?_
    replace vc := vc.2.2.2.2.2.2.2.2.2.1 q9
    refine go_aload_n (x := 82) dX12_has_104 rfl ?_
    refine go_getR (x := 133) dX12_has_105 f12_166 sh82 (fun _ _ => rfl) (rf82_68 hR) ?_
    refine go_bipush (v := 26) dX12_has_108 rfl ?_
    refine go_iald' (v := (h.1 133 26)) dX12_has_110 sh133 (by unfold vp_in; decide) rfl ?_
    exact go_iret dX12_has_111 rfl vc rfl (Nat.le_refl _) (Nat.le_refl _)
  by_cases q10 : a1 = 10
  · refine go_tableIn (off := 111) 112 dX12_has_1 (by rw [q10]; decide) (by rw [q10]; decide) (by rw [q10]; rfl) rfl ?_
    replace vc := vc.2.2.2.2.2.2.2.2.2.2.1 q10
    refine go_aload_n (x := 82) dX12_has_112 rfl ?_
    refine go_getI' (v := (h.1 82 76)) dX12_has_113 f12_428 sh82 (fun _ _ => rfl) rfl ?_
    exact go_iret dX12_has_116 rfl vc rfl (Nat.le_refl _) (Nat.le_refl _)
  by_cases q11 : a1 = 11
  · refine go_tableIn (off := 116) 117 dX12_has_1 (by rw [q11]; decide) (by rw [q11]; decide) (by rw [q11]; rfl) rfl ?_
    replace vc := vc.2.2.2.2.2.2.2.2.2.2.2.1 q11
    refine go_aload_n (x := 82) dX12_has_117 rfl ?_
    refine go_getI' (v := (h.1 82 80)) dX12_has_118 f12_425 sh82 (fun _ _ => rfl) rfl ?_
    exact go_iret dX12_has_121 rfl vc rfl (Nat.le_refl _) (Nat.le_refl _)
  replace vc := vc.2.2.2.2.2.2.2.2.2.2.2.2 q0 q1 q2 q3 q4 q5 q6 q7 q8 q9 q10 q11
  refine go_tableOut 122 dX12_has_1 ?_ rfl ?_
  · have e0 : ¬ (a1).toInt = 0 := lv_neT q0 rfl; have e1 : ¬ (a1).toInt = 1 := lv_neT q1 rfl; have e2 : ¬ (a1).toInt = 2 := lv_neT q2 rfl; have e3 : ¬ (a1).toInt = 3 := lv_neT q3 rfl; have e4 : ¬ (a1).toInt = 4 := lv_neT q4 rfl; have e5 : ¬ (a1).toInt = 5 := lv_neT q5 rfl; have e6 : ¬ (a1).toInt = 6 := lv_neT q6 rfl; have e7 : ¬ (a1).toInt = 7 := lv_neT q7 rfl; have e8 : ¬ (a1).toInt = 8 := lv_neT q8 rfl; have e9 : ¬ (a1).toInt = 9 := lv_neT q9 rfl; have e10 : ¬ (a1).toInt = 10 := lv_neT q10 rfl; have e11 : ¬ (a1).toInt = 11 := lv_neT q11 rfl
    omega
  refine go_iconst (v := (-1)) dX12_has_122 rfl ?_
  exact go_iret dX12_has_123 rfl vc rfl (Nat.le_refl _) (Nat.le_refl _)
set_option maxRecDepth 20000 in
theorem wX12_letter_0 {p : Program} {l : Launch} {e : Env} {s : State} {m : MethodId} {args : Array Value} {below : List Frame} {meth : Method} {c : Code} {G : gG} {d : Nat} {Q : Option Value → gH → Prop} {h : gH} {lk sp : Nat} {cd : Option Nat} {a1 : Int32} {a2 : Int32} {a3 : Int32} (hR : h.2.2 = gRF lk sp cd) (hlk : lk = 30 ∨ lk = 67) (hsp : sp = 30 ∨ sp = 67)  (vc : gC l G d MX12_isIn [.long (a1 : Int32).toInt64, .long 0, .long 1] h (rI fun v1 h1 => h1.2.2 = (h).2.2 ∧ ((v1 = 0 → Q (some (.int (-1))) h1) ∧ (¬ v1 = 0 → (vp_in ((7 + a1)) 10 ∧ gC l G d MX12_isIn [.long (a2 : Int32).toInt64, .long 0, .long (((h1.1 119 ((7 + a1) : Int32).toNatClampNeg) - 1) : Int32).toInt64] h1 (rI fun v2 h2 => h2.2.2 = (h1).2.2 ∧ ((v2 = 0 → Q (some (.int (-1))) h2) ∧ (¬ v2 = 0 → gC l G d MX12_isIn [.long (a3 : Int32).toInt64, .long 0, .long 5] h2 (rI fun v3 h3 => h3.2.2 = (h2).2.2 ∧ ((¬ v3 = 0 → (vp_in (((12 + (6 * a1)) + a2)) 24 ∧ gg p l e s m args below meth c G (d + 1) MX12_letter Q 68 [some (.ref 82), some (.int a1), some (.int a2), some (.int a3), some (.long (h3.2.1 120 (((12 + (6 * a1)) + a2) : Int32).toNatClampNeg)), none, some (.int 0), some (.long (h3.2.1 120 (((12 + (6 * a1)) + a2) : Int32).toNatClampNeg)), none] [] h3)) ∧ (v3 = 0 → Q (some (.int (-1))) h3))))))))))) : gg p l e s m args below meth c G (d + 1) MX12_letter Q 0 [some (.ref 82), some (.int a1), some (.int a2), some (.int a3), none, none, none, none, none] [] h := by
  refine go_iload_n (x := a1) dX12_letter_0 rfl ?_
  refine go_i2l dX12_letter_1 ?_
  refine go_lconst (v := 0) dX12_letter_2 rfl ?_
  refine go_lconst (v := 1) dX12_letter_3 rfl ?_
  refine gsI3 MX12_isIn dX12_letter_4 lX12_321 kX12_isIn sX12_isIn (Nat.le_of_ble_eq_true rfl) vc ?_
  intro v1 h1 vc
  obtain ⟨hR1, vc⟩ := vc
  replace hR := hR1.trans hR
  refine go_if_eq 43 dX12_letter_7 rfl (fun q => ?_) (fun q => ?_)
  · replace vc := vc.1 q
    refine go_iconst (v := (-1)) dX12_letter_43 rfl ?_
    exact go_iret dX12_letter_44 rfl vc rfl (Nat.le_refl _) (Nat.le_refl _)
  · replace vc := vc.2 q
    refine go_iload_n (x := a2) dX12_letter_10 rfl ?_
    refine go_i2l dX12_letter_11 ?_
    refine go_lconst (v := 0) dX12_letter_12 rfl ?_
    refine go_aload_n (x := 82) dX12_letter_13 rfl ?_
    refine go_getR (x := 119) dX12_letter_14 f12_123 sh82 (fun _ _ => rfl) (rf82_46 hR) ?_
    refine go_bipush (v := 7) dX12_letter_17 rfl ?_
    refine go_iload_n (x := a1) dX12_letter_19 rfl ?_
    refine go_iadd dX12_letter_20 ?_
    refine go_iald' (v := (h1.1 119 ((7 + a1) : Int32).toNatClampNeg)) dX12_letter_21 sh119 vc.1 rfl ?_
    have vc := vc.2
    refine go_iconst (v := 1) dX12_letter_22 rfl ?_
    refine go_isub dX12_letter_23 ?_
    refine go_i2l dX12_letter_24 ?_
    refine gsI3 MX12_isIn dX12_letter_25 lX12_321 kX12_isIn sX12_isIn (Nat.le_of_ble_eq_true rfl) vc ?_
    intro v2 h2 vc
    obtain ⟨hR2, vc⟩ := vc
    replace hR := hR2.trans hR
    refine go_if_eq 43 dX12_letter_28 rfl (fun q => ?_) (fun q => ?_)
    · replace vc := vc.1 q
      refine go_iconst (v := (-1)) dX12_letter_43 rfl ?_
      exact go_iret dX12_letter_44 rfl vc rfl (Nat.le_refl _) (Nat.le_refl _)
    · replace vc := vc.2 q
      refine go_iload_n (x := a3) dX12_letter_31 rfl ?_
      refine go_i2l dX12_letter_32 ?_
      refine go_lconst (v := 0) dX12_letter_33 rfl ?_
      refine go_ldc2 (v := 5) dX12_letter_34 nX12_562 ?_
      refine gsI3 MX12_isIn dX12_letter_37 lX12_321 kX12_isIn sX12_isIn (Nat.le_of_ble_eq_true rfl) vc ?_
      intro v3 h3 vc
      obtain ⟨hR3, vc⟩ := vc
      replace hR := hR3.trans hR
      refine go_if_ne 45 dX12_letter_40 rfl (fun q => ?_) (fun q => ?_)
      · replace vc := vc.1 q
        refine go_aload_n (x := 82) dX12_letter_45 rfl ?_
        refine go_getR (x := 120) dX12_letter_46 f12_126 sh82 (fun _ _ => rfl) (rf82_47 hR) ?_
        refine go_bipush (v := 12) dX12_letter_49 rfl ?_
        refine go_bipush (v := 6) dX12_letter_51 rfl ?_
        refine go_iload_n (x := a1) dX12_letter_53 rfl ?_
        refine go_imul dX12_letter_54 ?_
        refine go_iadd dX12_letter_55 ?_
        refine go_iload_n (x := a2) dX12_letter_56 rfl ?_
        refine go_iadd dX12_letter_57 ?_
        refine go_lald' (v := (h3.2.1 120 (((12 + (6 * a1)) + a2) : Int32).toNatClampNeg)) dX12_letter_58 sh120 vc.1 rfl ?_
        have vc := vc.2
        refine go_lstore dX12_letter_59 (Nat.le_of_ble_eq_true rfl) ?_
        show gg p l e s m args below meth c G (d + 1) MX12_letter Q 61 [some (.ref 82), some (.int a1), some (.int a2), some (.int a3), some (.long (h3.2.1 120 (((12 + (6 * a1)) + a2) : Int32).toNatClampNeg)), none, none, none, none] [] h3
        refine go_iconst (v := 0) dX12_letter_61 rfl ?_
        refine go_istore dX12_letter_62 (Nat.le_of_ble_eq_true rfl) ?_
        show gg p l e s m args below meth c G (d + 1) MX12_letter Q 64 [some (.ref 82), some (.int a1), some (.int a2), some (.int a3), some (.long (h3.2.1 120 (((12 + (6 * a1)) + a2) : Int32).toNatClampNeg)), none, some (.int 0), none, none] [] h3
        refine go_lload (x := (h3.2.1 120 (((12 + (6 * a1)) + a2) : Int32).toNatClampNeg)) dX12_letter_64 rfl ?_
        refine go_lstore dX12_letter_66 (Nat.le_of_ble_eq_true rfl) ?_
        show gg p l e s m args below meth c G (d + 1) MX12_letter Q 68 [some (.ref 82), some (.int a1), some (.int a2), some (.int a3), some (.long (h3.2.1 120 (((12 + (6 * a1)) + a2) : Int32).toNatClampNeg)), none, some (.int 0), some (.long (h3.2.1 120 (((12 + (6 * a1)) + a2) : Int32).toNatClampNeg)), none] [] h3
        exact vc
      · replace vc := vc.2 q
        refine go_iconst (v := (-1)) dX12_letter_43 rfl ?_
        exact go_iret dX12_letter_44 rfl vc rfl (Nat.le_refl _) (Nat.le_refl _)
set_option maxRecDepth 20000 in
theorem wX12_letter_68 {p : Program} {l : Launch} {e : Env} {s : State} {m : MethodId} {args : Array Value} {below : List Frame} {meth : Method} {c : Code} {G : gG} {d : Nat} {Q : Option Value → gH → Prop} {h : gH} {lk sp : Nat} {cd : Option Nat} {x1 : Int32} {x2 : Int32} {x3 : Int32} {x4 : Int64} {x6 : Int32} {x7 : Int64} (hR : h.2.2 = gRF lk sp cd) (hlk : lk = 30 ∨ lk = 67) (hsp : sp = 30 ∨ sp = 67)  (vc : (((lg_cmp x7 0) ≤ 0 → ((x3 < x6 → gg p l e s m args below meth c G (d + 1) MX12_letter Q 103 [some (.ref 82), some (.int x1), some (.int x2), some (.int x3), some (.long x4), none, some (.int x6), some (.int (x6 - 1)), none] [] h) ∧ (¬ x3 < x6 → Q (some (.int 0)) h))) ∧ (¬ (lg_cmp x7 0) ≤ 0 → gg p l e s m args below meth c G (d + 1) MX12_letter Q 68 [some (.ref 82), some (.int x1), some (.int x2), some (.int x3), some (.long x4), none, some (.int (x6 + 1)), some (.long (x7 / 27)), none] [] h))) : gg p l e s m args below meth c G (d + 1) MX12_letter Q 68 [some (.ref 82), some (.int x1), some (.int x2), some (.int x3), some (.long x4), none, some (.int x6), some (.long x7), none] [] h := by
  refine go_lload (x := x7) dX12_letter_68 rfl ?_
  refine go_lconst (v := 0) dX12_letter_70 rfl ?_
  refine go_lcmp dX12_letter_71 ?_
  refine go_if_le 89 dX12_letter_72 rfl (fun q => ?_) (fun q => ?_)
  · replace vc := vc.1 q
    refine go_iload_n (x := x3) dX12_letter_89 rfl ?_
    refine go_iload (x := x6) dX12_letter_90 rfl ?_
    refine go_icmp_lt 97 dX12_letter_92 rfl (fun q => ?_) (fun q => ?_)
    · replace vc := vc.1 q
      refine go_iload (x := x6) dX12_letter_97 rfl ?_
      refine go_iconst (v := 1) dX12_letter_99 rfl ?_
      refine go_isub dX12_letter_100 ?_
      refine go_istore dX12_letter_101 (Nat.le_of_ble_eq_true rfl) ?_
      show gg p l e s m args below meth c G (d + 1) MX12_letter Q 103 [some (.ref 82), some (.int x1), some (.int x2), some (.int x3), some (.long x4), none, some (.int x6), some (.int (x6 - 1)), none] [] h
      exact vc
    · replace vc := vc.2 q
      refine go_iconst (v := 0) dX12_letter_95 rfl ?_
      exact go_iret dX12_letter_96 rfl vc rfl (Nat.le_refl _) (Nat.le_refl _)
  · replace vc := vc.2 q
    refine go_iinc (x := x6) dX12_letter_75 rfl ?_
    show gg p l e s m args below meth c G (d + 1) MX12_letter Q 78 [some (.ref 82), some (.int x1), some (.int x2), some (.int x3), some (.long x4), none, some (.int (x6 + 1)), some (.long x7), none] [] h
    refine go_lload (x := x7) dX12_letter_78 rfl ?_
    refine go_ldc2 (v := 27) dX12_letter_80 nX12_332 ?_
    refine go_ldiv dX12_letter_83 (by decide) ?_
    refine go_lstore dX12_letter_84 (Nat.le_of_ble_eq_true rfl) ?_
    show gg p l e s m args below meth c G (d + 1) MX12_letter Q 86 [some (.ref 82), some (.int x1), some (.int x2), some (.int x3), some (.long x4), none, some (.int (x6 + 1)), some (.long (x7 / 27)), none] [] h
    refine go_goto 68 dX12_letter_86 rfl ?_
    exact vc
set_option maxRecDepth 20000 in
theorem wX12_letter_103 {p : Program} {l : Launch} {e : Env} {s : State} {m : MethodId} {args : Array Value} {below : List Frame} {meth : Method} {c : Code} {G : gG} {d : Nat} {Q : Option Value → gH → Prop} {h : gH} {lk sp : Nat} {cd : Option Nat} {x1 : Int32} {x2 : Int32} {x3 : Int32} {x4 : Int64} {x6 : Int32} {x7 : Int32} (hR : h.2.2 = gRF lk sp cd) (hlk : lk = 30 ∨ lk = 67) (hsp : sp = 30 ∨ sp = 67)  (vc : ((x7 ≤ x3 → Q (some (.int ((x4 - x4 / 27 * 27) : Int64).toInt32)) h) ∧ (¬ x7 ≤ x3 → gg p l e s m args below meth c G (d + 1) MX12_letter Q 103 [some (.ref 82), some (.int x1), some (.int x2), some (.int x3), some (.long (x4 / 27)), none, some (.int x6), some (.int (x7 + (-1))), none] [] h))) : gg p l e s m args below meth c G (d + 1) MX12_letter Q 103 [some (.ref 82), some (.int x1), some (.int x2), some (.int x3), some (.long x4), none, some (.int x6), some (.int x7), none] [] h := by
  refine go_iload (x := x7) dX12_letter_103 rfl ?_
  refine go_iload_n (x := x3) dX12_letter_105 rfl ?_
  refine go_icmp_le 123 dX12_letter_106 rfl (fun q => ?_) (fun q => ?_)
  · replace vc := vc.1 q
    refine go_lload (x := x4) dX12_letter_123 rfl ?_
    refine go_ldc2 (v := 27) dX12_letter_125 nX12_332 ?_
    refine go_lrem dX12_letter_128 (by decide) ?_
    refine go_l2i dX12_letter_129 ?_
    exact go_iret dX12_letter_130 rfl vc rfl (Nat.le_refl _) (Nat.le_refl _)
  · replace vc := vc.2 q
    refine go_lload (x := x4) dX12_letter_109 rfl ?_
    refine go_ldc2 (v := 27) dX12_letter_111 nX12_332 ?_
    refine go_ldiv dX12_letter_114 (by decide) ?_
    refine go_lstore dX12_letter_115 (Nat.le_of_ble_eq_true rfl) ?_
    show gg p l e s m args below meth c G (d + 1) MX12_letter Q 117 [some (.ref 82), some (.int x1), some (.int x2), some (.int x3), some (.long (x4 / 27)), none, some (.int x6), some (.int x7), none] [] h
    refine go_iinc (x := x7) dX12_letter_117 rfl ?_
    show gg p l e s m args below meth c G (d + 1) MX12_letter Q 120 [some (.ref 82), some (.int x1), some (.int x2), some (.int x3), some (.long (x4 / 27)), none, some (.int x6), some (.int (x7 + (-1))), none] [] h
    refine go_goto 103 dX12_letter_120 rfl ?_
    exact vc
set_option maxRecDepth 20000 in
theorem wX12_boat_0 {p : Program} {l : Launch} {e : Env} {s : State} {m : MethodId} {args : Array Value} {below : List Frame} {meth : Method} {c : Code} {G : gG} {d : Nat} {Q : Option Value → gH → Prop} {h : gH} {lk sp : Nat} {cd : Option Nat} {a1 : Int32} {a2 : Int32} (hR : h.2.2 = gRF lk sp cd) (hlk : lk = 30 ∨ lk = 67) (hsp : sp = 30 ∨ sp = 67)  (vc : gC l G d MX12_isBoat [.ref 82, .int a1] h (rI fun v1 h1 => h1.2.2 = (h).2.2 ∧ ((¬ v1 = 0 → gC l G d MX12_isIn [.long (a2 : Int32).toInt64, .long 0, .long 3] h1 (rI fun v2 h2 => h2.2.2 = (h1).2.2 ∧ ((v2 = 0 → ((¬ a2 = 4 → Q (some (.int (-1))) h2) ∧ (a2 = 4 → (vp_in ((12 + (2 * a1))) 24 ∧ Q (some (.int (h2.1 122 ((12 + (2 * a1)) : Int32).toNatClampNeg))) h2)))) ∧ (¬ v2 = 0 → (vp_in (((2 + (4 * a1)) + a2)) 187 ∧ Q (some (.int (h2.1 133 (((2 + (4 * a1)) + a2) : Int32).toNatClampNeg))) h2))))) ∧ (v1 = 0 → Q (some (.int (-1))) h1)))) : gg p l e s m args below meth c G (d + 1) MX12_boat Q 0 [some (.ref 82), some (.int a1), some (.int a2)] [] h := by
  refine go_aload_n (x := 82) dX12_boat_0 rfl ?_
  refine go_iload_n (x := a1) dX12_boat_1 rfl ?_
  refine gvI1 MX12_isBoat dX12_boat_2 lX12_564 kX12_isBoat vX12_isBoat sh82 (by decide) rfl (Nat.le_of_ble_eq_true rfl) vc ?_
  intro v1 h1 vc
  obtain ⟨hR1, vc⟩ := vc
  replace hR := hR1.trans hR
  refine go_if_ne 10 dX12_boat_5 rfl (fun q => ?_) (fun q => ?_)
  · replace vc := vc.1 q
    refine go_iload_n (x := a2) dX12_boat_10 rfl ?_
    refine go_i2l dX12_boat_11 ?_
    refine go_lconst (v := 0) dX12_boat_12 rfl ?_
    refine go_ldc2 (v := 3) dX12_boat_13 nX12_567 ?_
    refine gsI3 MX12_isIn dX12_boat_16 lX12_321 kX12_isIn sX12_isIn (Nat.le_of_ble_eq_true rfl) vc ?_
    intro v2 h2 vc
    obtain ⟨hR2, vc⟩ := vc
    replace hR := hR2.trans hR
    refine go_if_eq 37 dX12_boat_19 rfl (fun q => ?_) (fun q => ?_)
    · replace vc := vc.1 q
      refine go_iload_n (x := a2) dX12_boat_37 rfl ?_
      refine go_iconst (v := 4) dX12_boat_38 rfl ?_
      refine go_icmp_ne 56 dX12_boat_39 rfl (fun q => ?_) (fun q => ?_)
      · replace vc := vc.1 q
        refine go_iconst (v := (-1)) dX12_boat_56 rfl ?_
        exact go_iret dX12_boat_57 rfl vc rfl (Nat.le_refl _) (Nat.le_refl _)
      · replace vc := vc.2 q
        refine go_aload_n (x := 82) dX12_boat_42 rfl ?_
        refine go_getR (x := 122) dX12_boat_43 f12_133 sh82 (fun _ _ => rfl) (rf82_49 hR) ?_
        refine go_bipush (v := 12) dX12_boat_46 rfl ?_
        refine go_iconst (v := 2) dX12_boat_48 rfl ?_
        refine go_iload_n (x := a1) dX12_boat_49 rfl ?_
        refine go_imul dX12_boat_50 ?_
        refine go_iadd dX12_boat_51 ?_
        refine go_iald' (v := (h2.1 122 ((12 + (2 * a1)) : Int32).toNatClampNeg)) dX12_boat_52 sh122 vc.1 rfl ?_
        have vc := vc.2
        refine go_goto 57 dX12_boat_53 rfl ?_
        exact go_iret dX12_boat_57 rfl vc rfl (Nat.le_refl _) (Nat.le_refl _)
    · replace vc := vc.2 q
      refine go_aload_n (x := 82) dX12_boat_22 rfl ?_
      refine go_getR (x := 133) dX12_boat_23 f12_166 sh82 (fun _ _ => rfl) (rf82_68 hR) ?_
      refine go_iconst (v := 2) dX12_boat_26 rfl ?_
      refine go_iconst (v := 4) dX12_boat_27 rfl ?_
      refine go_iload_n (x := a1) dX12_boat_28 rfl ?_
      refine go_imul dX12_boat_29 ?_
      refine go_iadd dX12_boat_30 ?_
      refine go_iload_n (x := a2) dX12_boat_31 rfl ?_
      refine go_iadd dX12_boat_32 ?_
      refine go_iald' (v := (h2.1 133 (((2 + (4 * a1)) + a2) : Int32).toNatClampNeg)) dX12_boat_33 sh133 vc.1 rfl ?_
      have vc := vc.2
      refine go_goto 57 dX12_boat_34 rfl ?_
      exact go_iret dX12_boat_57 rfl vc rfl (Nat.le_refl _) (Nat.le_refl _)
  · replace vc := vc.2 q
    refine go_iconst (v := (-1)) dX12_boat_8 rfl ?_
    exact go_iret dX12_boat_9 rfl vc rfl (Nat.le_refl _) (Nat.le_refl _)
set_option maxRecDepth 20000 in
theorem wX12_cell_0 {p : Program} {l : Launch} {e : Env} {s : State} {m : MethodId} {args : Array Value} {below : List Frame} {meth : Method} {c : Code} {G : gG} {d : Nat} {Q : Option Value → gH → Prop} {h : gH} {lk sp : Nat} {cd : Option Nat} {a1 : Int32} {a2 : Int32} (hR : h.2.2 = gRF lk sp cd) (hlk : lk = 30 ∨ lk = 67) (hsp : sp = 30 ∨ sp = 67)  (vc : gC l G d MX12_isCell [.ref 82, .int a1] h (rI fun v1 h1 => h1.2.2 = (h).2.2 ∧ ((¬ v1 = 0 → ((a2 = 0 → gC l G d MX12_isLand [.ref 82, .int a1] h1 (rI fun v2 h2 => h2.2.2 = (h1).2.2 ∧ ((v2 = 0 → gC l G d MX12_depthOf [.ref 82, .int a1] h2 (rI fun v3 h3 => h3.2.2 = (h2).2.2 ∧ Q (some (.int v3)) h3)) ∧ (¬ v2 = 0 → Q (some (.int (-1))) h2)))) ∧ (a2 = 1 → gC l G d MX12_isWreck [.ref 82, .int a1] h1 (rI fun v4 h4 => h4.2.2 = (h1).2.2 ∧ ((v4 = 0 → Q (some (.int 0)) h4) ∧ (¬ v4 = 0 → Q (some (.int 1)) h4)))) ∧ (a2 = 2 → gC l G d MX12_homeOf [.ref 82, .int a1] h1 (rI fun v5 h5 => h5.2.2 = (h1).2.2 ∧ Q (some (.int v5)) h5)) ∧ (a2 = 3 → gC l G d MX12_boatsIn [.ref 82, .int a1] h1 (rI fun v6 h6 => h6.2.2 = (h1).2.2 ∧ Q (some (.int v6)) h6)) ∧ (¬ a2 = 0 → ¬ a2 = 1 → ¬ a2 = 2 → ¬ a2 = 3 → Q (some (.int (-1))) h1))) ∧ (v1 = 0 → Q (some (.int (-1))) h1)))) : gg p l e s m args below meth c G (d + 1) MX12_cell Q 0 [some (.ref 82), some (.int a1), some (.int a2)] [] h := by
  refine go_aload_n (x := 82) dX12_cell_0 rfl ?_
  refine go_iload_n (x := a1) dX12_cell_1 rfl ?_
  refine gvI1 MX12_isCell dX12_cell_2 lX12_489 kX12_isCell vX12_isCell sh82 (by decide) rfl (Nat.le_of_ble_eq_true rfl) vc ?_
  intro v1 h1 vc
  obtain ⟨hR1, vc⟩ := vc
  replace hR := hR1.trans hR
  refine go_if_ne 10 dX12_cell_5 rfl (fun q => ?_) (fun q => ?_)
  · replace vc := vc.1 q
    refine go_iload_n (x := a2) dX12_cell_10 rfl ?_
    by_cases q0 : a2 = 0
    · refine go_tableIn (off := 29) 40 dX12_cell_11 (by rw [q0]; decide) (by rw [q0]; decide) (by rw [q0]; rfl) rfl ?_
      replace vc := vc.1 q0
      refine go_aload_n (x := 82) dX12_cell_40 rfl ?_
      refine go_iload_n (x := a1) dX12_cell_41 rfl ?_
      refine gvI1 MX12_isLand dX12_cell_42 lX12_492 kX12_isLand vX12_isLand sh82 (by decide) rfl (Nat.le_of_ble_eq_true rfl) vc ?_
      intro v2 h2 vc
      obtain ⟨hR2, vc⟩ := vc
      replace hR := hR2.trans hR
      refine go_if_eq 52 dX12_cell_45 rfl (fun q => ?_) (fun q => ?_)
      · replace vc := vc.1 q
        refine go_aload_n (x := 82) dX12_cell_52 rfl ?_
        refine go_iload_n (x := a1) dX12_cell_53 rfl ?_
        refine gvI1 MX12_depthOf dX12_cell_54 lX12_507 kX12_depthOf vX12_depthOf sh82 (by decide) rfl (Nat.le_of_ble_eq_true rfl) vc ?_
        intro v3 h3 vc
        obtain ⟨hR3, vc⟩ := vc
        replace hR := hR3.trans hR
        exact go_iret dX12_cell_57 rfl vc rfl (Nat.le_refl _) (Nat.le_refl _)
      · replace vc := vc.2 q
        refine go_iconst (v := (-1)) dX12_cell_48 rfl ?_
        refine go_goto 57 dX12_cell_49 rfl ?_
        exact go_iret dX12_cell_57 rfl vc rfl (Nat.le_refl _) (Nat.le_refl _)
    by_cases q1 : a2 = 1
    · refine go_tableIn (off := 47) 58 dX12_cell_11 (by rw [q1]; decide) (by rw [q1]; decide) (by rw [q1]; rfl) rfl ?_
      replace vc := vc.2.1 q1
      refine go_aload_n (x := 82) dX12_cell_58 rfl ?_
      refine go_iload_n (x := a1) dX12_cell_59 rfl ?_
      refine gvI1 MX12_isWreck dX12_cell_60 lX12_495 kX12_isWreck vX12_isWreck sh82 (by decide) rfl (Nat.le_of_ble_eq_true rfl) vc ?_
      intro v4 h4 vc
      obtain ⟨hR4, vc⟩ := vc
      replace hR := hR4.trans hR
      refine go_if_eq 70 dX12_cell_63 rfl (fun q => ?_) (fun q => ?_)
      · replace vc := vc.1 q
        refine go_iconst (v := 0) dX12_cell_70 rfl ?_
        exact go_iret dX12_cell_71 rfl vc rfl (Nat.le_refl _) (Nat.le_refl _)
      · replace vc := vc.2 q
        refine go_iconst (v := 1) dX12_cell_66 rfl ?_
        refine go_goto 71 dX12_cell_67 rfl ?_
        exact go_iret dX12_cell_71 rfl vc rfl (Nat.le_refl _) (Nat.le_refl _)
    by_cases q2 : a2 = 2
    · refine go_tableIn (off := 61) 72 dX12_cell_11 (by rw [q2]; decide) (by rw [q2]; decide) (by rw [q2]; rfl) rfl ?_
      replace vc := vc.2.2.1 q2
      refine go_aload_n (x := 82) dX12_cell_72 rfl ?_
      refine go_iload_n (x := a1) dX12_cell_73 rfl ?_
      refine gvI1 MX12_homeOf dX12_cell_74 lX12_510 kX12_homeOf vX12_homeOf sh82 (by decide) rfl (Nat.le_of_ble_eq_true rfl) vc ?_
      intro v5 h5 vc
      obtain ⟨hR5, vc⟩ := vc
      replace hR := hR5.trans hR
      exact go_iret dX12_cell_77 rfl vc rfl (Nat.le_refl _) (Nat.le_refl _)
    by_cases q3 : a2 = 3
    · refine go_tableIn (off := 67) 78 dX12_cell_11 (by rw [q3]; decide) (by rw [q3]; decide) (by rw [q3]; rfl) rfl ?_
      replace vc := vc.2.2.2.1 q3
      refine go_aload_n (x := 82) dX12_cell_78 rfl ?_
      refine go_iload_n (x := a1) dX12_cell_79 rfl ?_
      refine gvI1 MX12_boatsIn dX12_cell_80 lX12_569 kX12_boatsIn vX12_boatsIn sh82 (by decide) rfl (Nat.le_of_ble_eq_true rfl) vc ?_
      intro v6 h6 vc
      obtain ⟨hR6, vc⟩ := vc
      replace hR := hR6.trans hR
      exact go_iret dX12_cell_83 rfl vc rfl (Nat.le_refl _) (Nat.le_refl _)
    replace vc := vc.2.2.2.2 q0 q1 q2 q3
    refine go_tableOut 84 dX12_cell_11 ?_ rfl ?_
    · have e0 : ¬ (a2).toInt = 0 := lv_neT q0 rfl; have e1 : ¬ (a2).toInt = 1 := lv_neT q1 rfl; have e2 : ¬ (a2).toInt = 2 := lv_neT q2 rfl; have e3 : ¬ (a2).toInt = 3 := lv_neT q3 rfl
      omega
    refine go_iconst (v := (-1)) dX12_cell_84 rfl ?_
    exact go_iret dX12_cell_85 rfl vc rfl (Nat.le_refl _) (Nat.le_refl _)
  · replace vc := vc.2 q
    refine go_iconst (v := (-1)) dX12_cell_8 rfl ?_
    exact go_iret dX12_cell_9 rfl vc rfl (Nat.le_refl _) (Nat.le_refl _)
set_option maxRecDepth 20000 in
theorem wX12_isHand_0 {p : Program} {l : Launch} {e : Env} {s : State} {m : MethodId} {args : Array Value} {below : List Frame} {meth : Method} {c : Code} {G : gG} {d : Nat} {Q : Option Value → gH → Prop} {h : gH} {lk sp : Nat} {cd : Option Nat} {a1 : Int32} (hR : h.2.2 = gRF lk sp cd) (hlk : lk = 30 ∨ lk = 67) (hsp : sp = 30 ∨ sp = 67)  (vc : gC l G d MX12_handMany [.ref 82] h (rI fun v1 h1 => h1.2.2 = (h).2.2 ∧ gC l G d MX12_isIn [.long (a1 : Int32).toInt64, .long 0, .long ((v1 - 1) : Int32).toInt64] h1 (rI fun v2 h2 => h2.2.2 = (h1).2.2 ∧ ((v2 = 0 ∨ v2 = 1) ∧ Q (some (.int v2)) h2)))) : gg p l e s m args below meth c G (d + 1) MX12_isHand Q 0 [some (.ref 82), some (.int a1)] [] h := by
  refine go_iload_n (x := a1) dX12_isHand_0 rfl ?_
  refine go_i2l dX12_isHand_1 ?_
  refine go_lconst (v := 0) dX12_isHand_2 rfl ?_
  refine go_aload_n (x := 82) dX12_isHand_3 rfl ?_
  refine gvI0 MX12_handMany dX12_isHand_4 lX12_572 kX12_handMany vX12_handMany sh82 (by decide) rfl (Nat.le_of_ble_eq_true rfl) vc ?_
  intro v1 h1 vc
  obtain ⟨hR1, vc⟩ := vc
  replace hR := hR1.trans hR
  refine go_iconst (v := 1) dX12_isHand_7 rfl ?_
  refine go_isub dX12_isHand_8 ?_
  refine go_i2l dX12_isHand_9 ?_
  refine gsI3 MX12_isIn dX12_isHand_10 lX12_321 kX12_isIn sX12_isIn (Nat.le_of_ble_eq_true rfl) vc ?_
  intro v2 h2 vc
  obtain ⟨hR2, vc⟩ := vc
  replace hR := hR2.trans hR
  exact go_zret dX12_isHand_13 rfl vc.1 vc.2 rfl (Nat.le_refl _) (Nat.le_refl _)
set_option maxRecDepth 20000 in
theorem wX12_boatWith_0 {p : Program} {l : Launch} {e : Env} {s : State} {m : MethodId} {args : Array Value} {below : List Frame} {meth : Method} {c : Code} {G : gG} {d : Nat} {Q : Option Value → gH → Prop} {h : gH} {lk sp : Nat} {cd : Option Nat} {a1 : Int32} (hR : h.2.2 = gRF lk sp cd) (hlk : lk = 30 ∨ lk = 67) (hsp : sp = 30 ∨ sp = 67)  (vc : gg p l e s m args below meth c G (d + 1) MX12_boatWith Q 2 [some (.ref 82), some (.int a1), some (.int 0)] [] h) : gg p l e s m args below meth c G (d + 1) MX12_boatWith Q 0 [some (.ref 82), some (.int a1), none] [] h := by
  refine go_iconst (v := 0) dX12_boatWith_0 rfl ?_
  refine go_istore_n dX12_boatWith_1 (Nat.le_of_ble_eq_true rfl) ?_
  show gg p l e s m args below meth c G (d + 1) MX12_boatWith Q 2 [some (.ref 82), some (.int a1), some (.int 0)] [] h
  exact vc
set_option maxRecDepth 20000 in
theorem wX12_boatWith_2 {p : Program} {l : Launch} {e : Env} {s : State} {m : MethodId} {args : Array Value} {below : List Frame} {meth : Method} {c : Code} {G : gG} {d : Nat} {Q : Option Value → gH → Prop} {h : gH} {lk sp : Nat} {cd : Option Nat} {x1 : Int32} {x2 : Int32} (hR : h.2.2 = gRF lk sp cd) (hlk : lk = 30 ∨ lk = 67) (hsp : sp = 30 ∨ sp = 67)  (vc : gC l G d MX12_boatMany [.ref 82] h (rI fun v1 h1 => h1.2.2 = (h).2.2 ∧ ((v1 ≤ x2 → Q (some (.int (-1))) h1) ∧ (¬ v1 ≤ x2 → gC l G d MX12_handOf [.ref 82, .int x2] h1 (rI fun v2 h2 => h2.2.2 = (h1).2.2 ∧ ((¬ v2 = x1 → gg p l e s m args below meth c G (d + 1) MX12_boatWith Q 2 [some (.ref 82), some (.int x1), some (.int (x2 + 1))] [] h2) ∧ (v2 = x1 → Q (some (.int x2)) h2))))))) : gg p l e s m args below meth c G (d + 1) MX12_boatWith Q 2 [some (.ref 82), some (.int x1), some (.int x2)] [] h := by
  refine go_iload_n (x := x2) dX12_boatWith_2 rfl ?_
  refine go_aload_n (x := 82) dX12_boatWith_3 rfl ?_
  refine gvI0 MX12_boatMany dX12_boatWith_4 lX12_483 kX12_boatMany vX12_boatMany sh82 (by decide) rfl (Nat.le_of_ble_eq_true rfl) vc ?_
  intro v1 h1 vc
  obtain ⟨hR1, vc⟩ := vc
  replace hR := hR1.trans hR
  refine go_icmp_ge 27 dX12_boatWith_7 rfl (fun q => ?_) (fun q => ?_)
  · replace vc := vc.1 q
    refine go_iconst (v := (-1)) dX12_boatWith_27 rfl ?_
    exact go_iret dX12_boatWith_28 rfl vc rfl (Nat.le_refl _) (Nat.le_refl _)
  · replace vc := vc.2 q
    refine go_aload_n (x := 82) dX12_boatWith_10 rfl ?_
    refine go_iload_n (x := x2) dX12_boatWith_11 rfl ?_
    refine gvI1 MX12_handOf dX12_boatWith_12 lX12_519 kX12_handOf vX12_handOf sh82 (by decide) rfl (Nat.le_of_ble_eq_true rfl) vc ?_
    intro v2 h2 vc
    obtain ⟨hR2, vc⟩ := vc
    replace hR := hR2.trans hR
    refine go_iload_n (x := x1) dX12_boatWith_15 rfl ?_
    refine go_icmp_ne 21 dX12_boatWith_16 rfl (fun q => ?_) (fun q => ?_)
    · replace vc := vc.1 q
      refine go_iinc (x := x2) dX12_boatWith_21 rfl ?_
      show gg p l e s m args below meth c G (d + 1) MX12_boatWith Q 24 [some (.ref 82), some (.int x1), some (.int (x2 + 1))] [] h2
      refine go_goto 2 dX12_boatWith_24 rfl ?_
      exact vc
    · replace vc := vc.2 q
      refine go_iload_n (x := x2) dX12_boatWith_19 rfl ?_
      exact go_iret dX12_boatWith_20 rfl vc rfl (Nat.le_refl _) (Nat.le_refl _)
set_option maxRecDepth 20000 in
theorem wX12_hand_0 {p : Program} {l : Launch} {e : Env} {s : State} {m : MethodId} {args : Array Value} {below : List Frame} {meth : Method} {c : Code} {G : gG} {d : Nat} {Q : Option Value → gH → Prop} {h : gH} {lk sp : Nat} {cd : Option Nat} {a1 : Int32} {a2 : Int32} (hR : h.2.2 = gRF lk sp cd) (hlk : lk = 30 ∨ lk = 67) (hsp : sp = 30 ∨ sp = 67)  (vc : gC l G d MX12_isHand [.ref 82, .int a1] h (rI fun v1 h1 => h1.2.2 = (h).2.2 ∧ ((¬ v1 = 0 → ((¬ a2 = 0 → ((¬ a2 = 1 → Q (some (.int (-1))) h1) ∧ (a2 = 1 → gC l G d MX12_boatWith [.ref 82, .int a1] h1 (rI fun v2 h2 => h2.2.2 = (h1).2.2 ∧ Q (some (.int v2)) h2)))) ∧ (a2 = 0 → (vp_in ((6 + a1)) 12 ∧ Q (some (.int (h1.1 123 ((6 + a1) : Int32).toNatClampNeg))) h1)))) ∧ (v1 = 0 → Q (some (.int (-1))) h1)))) : gg p l e s m args below meth c G (d + 1) MX12_hand Q 0 [some (.ref 82), some (.int a1), some (.int a2)] [] h := by
  refine go_aload_n (x := 82) dX12_hand_0 rfl ?_
  refine go_iload_n (x := a1) dX12_hand_1 rfl ?_
  refine gvI1 MX12_isHand dX12_hand_2 lX12_575 kX12_isHand vX12_isHand sh82 (by decide) rfl (Nat.le_of_ble_eq_true rfl) vc ?_
  intro v1 h1 vc
  obtain ⟨hR1, vc⟩ := vc
  replace hR := hR1.trans hR
  refine go_if_ne 10 dX12_hand_5 rfl (fun q => ?_) (fun q => ?_)
  · replace vc := vc.1 q
    refine go_iload_n (x := a2) dX12_hand_10 rfl ?_
    refine go_if_ne 26 dX12_hand_11 rfl (fun q => ?_) (fun q => ?_)
    · replace vc := vc.1 q
      refine go_iload_n (x := a2) dX12_hand_26 rfl ?_
      refine go_iconst (v := 1) dX12_hand_27 rfl ?_
      refine go_icmp_ne 39 dX12_hand_28 rfl (fun q => ?_) (fun q => ?_)
      · replace vc := vc.1 q
        refine go_iconst (v := (-1)) dX12_hand_39 rfl ?_
        exact go_iret dX12_hand_40 rfl vc rfl (Nat.le_refl _) (Nat.le_refl _)
      · replace vc := vc.2 q
        refine go_aload_n (x := 82) dX12_hand_31 rfl ?_
        refine go_iload_n (x := a1) dX12_hand_32 rfl ?_
        refine gvI1 MX12_boatWith dX12_hand_33 lX12_578 kX12_boatWith vX12_boatWith sh82 (by decide) rfl (Nat.le_of_ble_eq_true rfl) vc ?_
        intro v2 h2 vc
        obtain ⟨hR2, vc⟩ := vc
        replace hR := hR2.trans hR
        refine go_goto 40 dX12_hand_36 rfl ?_
        exact go_iret dX12_hand_40 rfl vc rfl (Nat.le_refl _) (Nat.le_refl _)
    · replace vc := vc.2 q
      refine go_aload_n (x := 82) dX12_hand_14 rfl ?_
      refine go_getR (x := 123) dX12_hand_15 f12_136 sh82 (fun _ _ => rfl) (rf82_50 hR) ?_
      refine go_bipush (v := 6) dX12_hand_18 rfl ?_
      refine go_iload_n (x := a1) dX12_hand_20 rfl ?_
      refine go_iadd dX12_hand_21 ?_
      refine go_iald' (v := (h1.1 123 ((6 + a1) : Int32).toNatClampNeg)) dX12_hand_22 sh123 vc.1 rfl ?_
      have vc := vc.2
      refine go_goto 40 dX12_hand_23 rfl ?_
      exact go_iret dX12_hand_40 rfl vc rfl (Nat.le_refl _) (Nat.le_refl _)
  · replace vc := vc.2 q
    refine go_iconst (v := (-1)) dX12_hand_8 rfl ?_
    exact go_iret dX12_hand_9 rfl vc rfl (Nat.le_refl _) (Nat.le_refl _)
set_option maxRecDepth 20000 in
theorem wX12_liked_0 {p : Program} {l : Launch} {e : Env} {s : State} {m : MethodId} {args : Array Value} {below : List Frame} {meth : Method} {c : Code} {G : gG} {d : Nat} {Q : Option Value → gH → Prop} {h : gH} {lk sp : Nat} {cd : Option Nat} {a1 : Int32} {a2 : Int32} (hR : h.2.2 = gRF lk sp cd) (hlk : lk = 30 ∨ lk = 67) (hsp : sp = 30 ∨ sp = 67)  (vc : (vp_in (((36 + (6 * a1)) + a2)) 72 ∧ Q (some (.int (h.1 124 (((36 + (6 * a1)) + a2) : Int32).toNatClampNeg))) h)) : gg p l e s m args below meth c G d MX12_liked Q 0 [some (.ref 82), some (.int a1), some (.int a2)] [] h := by
  refine go_aload_n (x := 82) dX12_liked_0 rfl ?_
  refine go_getR (x := 124) dX12_liked_1 f12_139 sh82 (fun _ _ => rfl) (rf82_51 hR) ?_
  refine go_bipush (v := 36) dX12_liked_4 rfl ?_
  refine go_bipush (v := 6) dX12_liked_6 rfl ?_
  refine go_iload_n (x := a1) dX12_liked_8 rfl ?_
  refine go_imul dX12_liked_9 ?_
  refine go_iadd dX12_liked_10 ?_
  refine go_iload_n (x := a2) dX12_liked_11 rfl ?_
  refine go_iadd dX12_liked_12 ?_
  refine go_iald' (v := (h.1 124 (((36 + (6 * a1)) + a2) : Int32).toNatClampNeg)) dX12_liked_13 sh124 vc.1 rfl ?_
  have vc := vc.2
  exact go_iret dX12_liked_14 rfl vc rfl (Nat.le_refl _) (Nat.le_refl _)
set_option maxRecDepth 20000 in
theorem wX12_likes_0 {p : Program} {l : Launch} {e : Env} {s : State} {m : MethodId} {args : Array Value} {below : List Frame} {meth : Method} {c : Code} {G : gG} {d : Nat} {Q : Option Value → gH → Prop} {h : gH} {lk sp : Nat} {cd : Option Nat} {a1 : Int32} {a2 : Int32} (hR : h.2.2 = gRF lk sp cd) (hlk : lk = 30 ∨ lk = 67) (hsp : sp = 30 ∨ sp = 67)  (vc : gC l G d MX12_isBoat [.ref 82, .int a1] h (rI fun v1 h1 => h1.2.2 = (h).2.2 ∧ ((v1 = 0 → Q (some (.int (-1))) h1) ∧ (¬ v1 = 0 → gC l G d MX12_isHand [.ref 82, .int a2] h1 (rI fun v2 h2 => h2.2.2 = (h1).2.2 ∧ ((v2 = 0 → Q (some (.int (-1))) h2) ∧ (¬ v2 = 0 → gC l G d MX12_liked [.ref 82, .int a1, .int a2] h2 (rI fun v3 h3 => h3.2.2 = (h2).2.2 ∧ Q (some (.int v3)) h3)))))))) : gg p l e s m args below meth c G (d + 1) MX12_likes Q 0 [some (.ref 82), some (.int a1), some (.int a2)] [] h := by
  refine go_aload_n (x := 82) dX12_likes_0 rfl ?_
  refine go_iload_n (x := a1) dX12_likes_1 rfl ?_
  refine gvI1 MX12_isBoat dX12_likes_2 lX12_564 kX12_isBoat vX12_isBoat sh82 (by decide) rfl (Nat.le_of_ble_eq_true rfl) vc ?_
  intro v1 h1 vc
  obtain ⟨hR1, vc⟩ := vc
  replace hR := hR1.trans hR
  refine go_if_eq 25 dX12_likes_5 rfl (fun q => ?_) (fun q => ?_)
  · replace vc := vc.1 q
    refine go_iconst (v := (-1)) dX12_likes_25 rfl ?_
    exact go_iret dX12_likes_26 rfl vc rfl (Nat.le_refl _) (Nat.le_refl _)
  · replace vc := vc.2 q
    refine go_aload_n (x := 82) dX12_likes_8 rfl ?_
    refine go_iload_n (x := a2) dX12_likes_9 rfl ?_
    refine gvI1 MX12_isHand dX12_likes_10 lX12_575 kX12_isHand vX12_isHand sh82 (by decide) rfl (Nat.le_of_ble_eq_true rfl) vc ?_
    intro v2 h2 vc
    obtain ⟨hR2, vc⟩ := vc
    replace hR := hR2.trans hR
    refine go_if_eq 25 dX12_likes_13 rfl (fun q => ?_) (fun q => ?_)
    · replace vc := vc.1 q
      refine go_iconst (v := (-1)) dX12_likes_25 rfl ?_
      exact go_iret dX12_likes_26 rfl vc rfl (Nat.le_refl _) (Nat.le_refl _)
    · replace vc := vc.2 q
      refine go_aload_n (x := 82) dX12_likes_16 rfl ?_
      refine go_iload_n (x := a1) dX12_likes_17 rfl ?_
      refine go_iload_n (x := a2) dX12_likes_18 rfl ?_
      refine gvI2 MX12_liked dX12_likes_19 lX12_581 kX12_liked vX12_liked sh82 (by decide) rfl (Nat.le_of_ble_eq_true rfl) vc ?_
      intro v3 h3 vc
      obtain ⟨hR3, vc⟩ := vc
      replace hR := hR3.trans hR
      refine go_goto 26 dX12_likes_22 rfl ?_
      exact go_iret dX12_likes_26 rfl vc rfl (Nat.le_refl _) (Nat.le_refl _)
set_option maxRecDepth 20000 in
theorem wX12_sky_0 {p : Program} {l : Launch} {e : Env} {s : State} {m : MethodId} {args : Array Value} {below : List Frame} {meth : Method} {c : Code} {G : gG} {d : Nat} {Q : Option Value → gH → Prop} {h : gH} {lk sp : Nat} {cd : Option Nat} {a1 : Int32} (hR : h.2.2 = gRF lk sp cd) (hlk : lk = 30 ∨ lk = 67) (hsp : sp = 30 ∨ sp = 67)  (vc : gC l G d MX12_isIn [.long (a1 : Int32).toInt64, .long 0, .long 999] h (rI fun v1 h1 => h1.2.2 = (h).2.2 ∧ ((v1 = 0 → Q (some (.int (-1))) h1) ∧ (¬ v1 = 0 → gC l G d MX12_skyIn [.ref 82, .int a1] h1 (rI fun v2 h2 => h2.2.2 = (h1).2.2 ∧ Q (some (.int v2)) h2))))) : gg p l e s m args below meth c G (d + 1) MX12_sky Q 0 [some (.ref 82), some (.int a1)] [] h := by
  refine go_iload_n (x := a1) dX12_sky_0 rfl ?_
  refine go_i2l dX12_sky_1 ?_
  refine go_lconst (v := 0) dX12_sky_2 rfl ?_
  refine go_ldc2 (v := 999) dX12_sky_3 nX12_584 ?_
  refine gsI3 MX12_isIn dX12_sky_6 lX12_321 kX12_isIn sX12_isIn (Nat.le_of_ble_eq_true rfl) vc ?_
  intro v1 h1 vc
  obtain ⟨hR1, vc⟩ := vc
  replace hR := hR1.trans hR
  refine go_if_eq 20 dX12_sky_9 rfl (fun q => ?_) (fun q => ?_)
  · replace vc := vc.1 q
    refine go_iconst (v := (-1)) dX12_sky_20 rfl ?_
    exact go_iret dX12_sky_21 rfl vc rfl (Nat.le_refl _) (Nat.le_refl _)
  · replace vc := vc.2 q
    refine go_aload_n (x := 82) dX12_sky_12 rfl ?_
    refine go_iload_n (x := a1) dX12_sky_13 rfl ?_
    refine gvI1 MX12_skyIn dX12_sky_14 lX12_513 kX12_skyIn vX12_skyIn sh82 (by decide) rfl (Nat.le_of_ble_eq_true rfl) vc ?_
    intro v2 h2 vc
    obtain ⟨hR2, vc⟩ := vc
    replace hR := hR2.trans hR
    refine go_goto 21 dX12_sky_17 rfl ?_
    exact go_iret dX12_sky_21 rfl vc rfl (Nat.le_refl _) (Nat.le_refl _)
set_option maxRecDepth 20000 in
theorem wX12_kept_0 {p : Program} {l : Launch} {e : Env} {s : State} {m : MethodId} {args : Array Value} {below : List Frame} {meth : Method} {c : Code} {G : gG} {d : Nat} {Q : Option Value → gH → Prop} {h : gH} {lk sp : Nat} {cd : Option Nat} {a1 : Int32} {a2 : Int32} (hR : h.2.2 = gRF lk sp cd) (hlk : lk = 30 ∨ lk = 67) (hsp : sp = 30 ∨ sp = 67)  (vc : gC l G d MX12_isIn [.long (a1 : Int32).toInt64, .long 0, .long (((h.1 133 26) - 1) : Int32).toInt64] h (rI fun v1 h1 => h1.2.2 = (h).2.2 ∧ ((v1 = 0 → Q (some (.int (-1))) h1) ∧ (¬ v1 = 0 → gC l G d MX12_isIn [.long (a2 : Int32).toInt64, .long 0, .long 3] h1 (rI fun v2 h2 => h2.2.2 = (h1).2.2 ∧ ((v2 = 0 → Q (some (.int (-1))) h2) ∧ (¬ v2 = 0 → (vp_in (((27 + (4 * a1)) + a2)) 187 ∧ Q (some (.int (h2.1 133 (((27 + (4 * a1)) + a2) : Int32).toNatClampNeg))) h2)))))))) : gg p l e s m args below meth c G (d + 1) MX12_kept Q 0 [some (.ref 82), some (.int a1), some (.int a2)] [] h := by
  refine go_iload_n (x := a1) dX12_kept_0 rfl ?_
  refine go_i2l dX12_kept_1 ?_
  refine go_lconst (v := 0) dX12_kept_2 rfl ?_
  refine go_aload_n (x := 82) dX12_kept_3 rfl ?_
  refine go_getR (x := 133) dX12_kept_4 f12_166 sh82 (fun _ _ => rfl) (rf82_68 hR) ?_
  refine go_bipush (v := 26) dX12_kept_7 rfl ?_
  refine go_iald' (v := (h.1 133 26)) dX12_kept_9 sh133 (by unfold vp_in; decide) rfl ?_
  refine go_iconst (v := 1) dX12_kept_10 rfl ?_
  refine go_isub dX12_kept_11 ?_
  refine go_i2l dX12_kept_12 ?_
  refine gsI3 MX12_isIn dX12_kept_13 lX12_321 kX12_isIn sX12_isIn (Nat.le_of_ble_eq_true rfl) vc ?_
  intro v1 h1 vc
  obtain ⟨hR1, vc⟩ := vc
  replace hR := hR1.trans hR
  refine go_if_eq 47 dX12_kept_16 rfl (fun q => ?_) (fun q => ?_)
  · replace vc := vc.1 q
    refine go_iconst (v := (-1)) dX12_kept_47 rfl ?_
    exact go_iret dX12_kept_48 rfl vc rfl (Nat.le_refl _) (Nat.le_refl _)
  · replace vc := vc.2 q
    refine go_iload_n (x := a2) dX12_kept_19 rfl ?_
    refine go_i2l dX12_kept_20 ?_
    refine go_lconst (v := 0) dX12_kept_21 rfl ?_
    refine go_ldc2 (v := 3) dX12_kept_22 nX12_567 ?_
    refine gsI3 MX12_isIn dX12_kept_25 lX12_321 kX12_isIn sX12_isIn (Nat.le_of_ble_eq_true rfl) vc ?_
    intro v2 h2 vc
    obtain ⟨hR2, vc⟩ := vc
    replace hR := hR2.trans hR
    refine go_if_eq 47 dX12_kept_28 rfl (fun q => ?_) (fun q => ?_)
    · replace vc := vc.1 q
      refine go_iconst (v := (-1)) dX12_kept_47 rfl ?_
      exact go_iret dX12_kept_48 rfl vc rfl (Nat.le_refl _) (Nat.le_refl _)
    · replace vc := vc.2 q
      refine go_aload_n (x := 82) dX12_kept_31 rfl ?_
      refine go_getR (x := 133) dX12_kept_32 f12_166 sh82 (fun _ _ => rfl) (rf82_68 hR) ?_
      refine go_bipush (v := 27) dX12_kept_35 rfl ?_
      refine go_iconst (v := 4) dX12_kept_37 rfl ?_
      refine go_iload_n (x := a1) dX12_kept_38 rfl ?_
      refine go_imul dX12_kept_39 ?_
      refine go_iadd dX12_kept_40 ?_
      refine go_iload_n (x := a2) dX12_kept_41 rfl ?_
      refine go_iadd dX12_kept_42 ?_
      refine go_iald' (v := (h2.1 133 (((27 + (4 * a1)) + a2) : Int32).toNatClampNeg)) dX12_kept_43 sh133 vc.1 rfl ?_
      have vc := vc.2
      refine go_goto 48 dX12_kept_44 rfl ?_
      exact go_iret dX12_kept_48 rfl vc rfl (Nat.le_refl _) (Nat.le_refl _)
set_option maxRecDepth 20000 in
theorem wX12_laysFears_0 {p : Program} {l : Launch} {e : Env} {s : State} {m : MethodId} {args : Array Value} {below : List Frame} {meth : Method} {c : Code} {G : gG} {d : Nat} {Q : Option Value → gH → Prop} {h : gH} {lk sp : Nat} {cd : Option Nat} {a1 : Int32} (hR : h.2.2 = gRF lk sp cd) (hlk : lk = 30 ∨ lk = 67) (hsp : sp = 30 ∨ sp = 67)  (vc : gg p l e s m args below meth c G (d + 1) MX12_laysFears Q 2 [some (.ref 82), some (.int a1), some (.int 0)] [] h) : gg p l e s m args below meth c G (d + 1) MX12_laysFears Q 0 [some (.ref 82), some (.int a1), none] [] h := by
  refine go_iconst (v := 0) dX12_laysFears_0 rfl ?_
  refine go_istore_n dX12_laysFears_1 (Nat.le_of_ble_eq_true rfl) ?_
  show gg p l e s m args below meth c G (d + 1) MX12_laysFears Q 2 [some (.ref 82), some (.int a1), some (.int 0)] [] h
  exact vc
set_option maxRecDepth 20000 in
theorem wX12_laysFears_2 {p : Program} {l : Launch} {e : Env} {s : State} {m : MethodId} {args : Array Value} {below : List Frame} {meth : Method} {c : Code} {G : gG} {d : Nat} {Q : Option Value → gH → Prop} {h : gH} {lk sp : Nat} {cd : Option Nat} {x1 : Int32} {x2 : Int32} (hR : h.2.2 = gRF lk sp cd) (hlk : lk = 30 ∨ lk = 67) (hsp : sp = 30 ∨ sp = 67)  (vc : gC l G d MX12_cellMany [.ref 82] h (rI fun v1 h1 => h1.2.2 = (h).2.2 ∧ ((v1 ≤ x2 → Q none h1) ∧ (¬ v1 ≤ x2 → gC l G d MX12_isLand [.ref 82, .int x2] h1 (rI fun v2 h2 => h2.2.2 = (h1).2.2 ∧ ((v2 = 0 → gC l G d MX12_dreadOf [.ref 82, .int x1, .int x2, .int (-1)] h2 (rI fun v3 h3 => h3.2.2 = (h2).2.2 ∧ (vp_in x2 48 ∧ gg p l e s m args below meth c G (d + 1) MX12_laysFears Q 2 [some (.ref 82), some (.int x1), some (.int (x2 + 1))] [] (sI h3 135 x2.toNatClampNeg v3)))) ∧ (¬ v2 = 0 → (vp_in x2 48 ∧ gg p l e s m args below meth c G (d + 1) MX12_laysFears Q 2 [some (.ref 82), some (.int x1), some (.int (x2 + 1))] [] (sI h2 135 x2.toNatClampNeg 1000000))))))))) : gg p l e s m args below meth c G (d + 1) MX12_laysFears Q 2 [some (.ref 82), some (.int x1), some (.int x2)] [] h := by
  refine go_iload_n (x := x2) dX12_laysFears_2 rfl ?_
  refine go_aload_n (x := 82) dX12_laysFears_3 rfl ?_
  refine gvI0 MX12_cellMany dX12_laysFears_4 lX12_480 kX12_cellMany vX12_cellMany sh82 (by decide) rfl (Nat.le_of_ble_eq_true rfl) vc ?_
  intro v1 h1 vc
  obtain ⟨hR1, vc⟩ := vc
  replace hR := hR1.trans hR
  refine go_icmp_ge 43 dX12_laysFears_7 rfl (fun q => ?_) (fun q => ?_)
  · replace vc := vc.1 q
    exact go_vret dX12_laysFears_43 rfl vc rfl (Nat.le_refl _) (Nat.le_refl _)
  · replace vc := vc.2 q
    refine go_aload_n (x := 82) dX12_laysFears_10 rfl ?_
    refine go_getR (x := 135) dX12_laysFears_11 f12_172 sh82 (fun _ _ => rfl) (rf82_70 hR) ?_
    refine go_iload_n (x := x2) dX12_laysFears_14 rfl ?_
    refine go_aload_n (x := 82) dX12_laysFears_15 rfl ?_
    refine go_iload_n (x := x2) dX12_laysFears_16 rfl ?_
    refine gvI1 MX12_isLand dX12_laysFears_17 lX12_492 kX12_isLand vX12_isLand sh82 (by decide) rfl (Nat.le_of_ble_eq_true rfl) vc ?_
    intro v2 h2 vc
    obtain ⟨hR2, vc⟩ := vc
    replace hR := hR2.trans hR
    refine go_if_eq 29 dX12_laysFears_20 rfl (fun q => ?_) (fun q => ?_)
    · replace vc := vc.1 q
      refine go_aload_n (x := 82) dX12_laysFears_29 rfl ?_
      refine go_iload_n (x := x1) dX12_laysFears_30 rfl ?_
      refine go_iload_n (x := x2) dX12_laysFears_31 rfl ?_
      refine go_iconst (v := (-1)) dX12_laysFears_32 rfl ?_
      refine gvI3 MX12_dreadOf dX12_laysFears_33 lX12_541 kX12_dreadOf vX12_dreadOf sh82 (by decide) rfl (Nat.le_of_ble_eq_true rfl) vc ?_
      intro v3 h3 vc
      obtain ⟨hR3, vc⟩ := vc
      replace hR := hR3.trans hR
      refine go_iast dX12_laysFears_36 sh135 vc.1 ?_
      have vc := vc.2
      show gg p l e s m args below meth c G (d + 1) MX12_laysFears Q 37 [some (.ref 82), some (.int x1), some (.int x2)] [] (sI h3 135 x2.toNatClampNeg v3)
      refine go_iinc (x := x2) dX12_laysFears_37 rfl ?_
      show gg p l e s m args below meth c G (d + 1) MX12_laysFears Q 40 [some (.ref 82), some (.int x1), some (.int (x2 + 1))] [] (sI h3 135 x2.toNatClampNeg v3)
      refine go_goto 2 dX12_laysFears_40 rfl ?_
      exact vc
    · replace vc := vc.2 q
      refine go_ldcw (v := 1000000) dX12_laysFears_23 nX12_586 ?_
      refine go_goto 36 dX12_laysFears_26 rfl ?_
      refine go_iast dX12_laysFears_36 sh135 vc.1 ?_
      have vc := vc.2
      show gg p l e s m args below meth c G (d + 1) MX12_laysFears Q 37 [some (.ref 82), some (.int x1), some (.int x2)] [] (sI h2 135 x2.toNatClampNeg 1000000)
      refine go_iinc (x := x2) dX12_laysFears_37 rfl ?_
      show gg p l e s m args below meth c G (d + 1) MX12_laysFears Q 40 [some (.ref 82), some (.int x1), some (.int (x2 + 1))] [] (sI h2 135 x2.toNatClampNeg 1000000)
      refine go_goto 2 dX12_laysFears_40 rfl ?_
      exact vc
set_option maxRecDepth 20000 in
theorem wX12_dread_0 {p : Program} {l : Launch} {e : Env} {s : State} {m : MethodId} {args : Array Value} {below : List Frame} {meth : Method} {c : Code} {G : gG} {d : Nat} {Q : Option Value → gH → Prop} {h : gH} {lk sp : Nat} {cd : Option Nat} {a1 : Int32} {a2 : Int32} {a3 : Int32} (hR : h.2.2 = gRF lk sp cd) (hlk : lk = 30 ∨ lk = 67) (hsp : sp = 30 ∨ sp = 67)  (vc : gC l G d MX12_isBoat [.ref 82, .int a1] h (rI fun v1 h1 => h1.2.2 = (h).2.2 ∧ ((v1 = 0 → Q (some (.int (-1))) h1) ∧ (¬ v1 = 0 → gC l G d MX12_isWater [.ref 82, .int a2] h1 (rI fun v2 h2 => h2.2.2 = (h1).2.2 ∧ ((v2 = 0 → Q (some (.int (-1))) h2) ∧ (¬ v2 = 0 → ((a3 = (-1) → ((¬ a3 = (-1) → gC l G d MX12_trustOf [.ref 82, .int a3] h2 (rI fun v3 h3 => h3.2.2 = (h2).2.2 ∧ gC l G d MX12_dreadOf [.ref 82, .int a1, .int a2, .int v3] h3 (rI fun v4 h4 => h4.2.2 = (h3).2.2 ∧ Q (some (.int v4)) h4))) ∧ (a3 = (-1) → gC l G d MX12_dreadOf [.ref 82, .int a1, .int a2, .int (-1)] h2 (rI fun v5 h5 => h5.2.2 = (h2).2.2 ∧ Q (some (.int v5)) h5)))) ∧ (¬ a3 = (-1) → gC l G d MX12_isBoat [.ref 82, .int a3] h2 (rI fun v6 h6 => h6.2.2 = (h2).2.2 ∧ ((v6 = 0 → Q (some (.int (-1))) h6) ∧ (¬ v6 = 0 → ((¬ a3 = a1 → ((¬ a3 = (-1) → gC l G d MX12_trustOf [.ref 82, .int a3] h6 (rI fun v7 h7 => h7.2.2 = (h6).2.2 ∧ gC l G d MX12_dreadOf [.ref 82, .int a1, .int a2, .int v7] h7 (rI fun v8 h8 => h8.2.2 = (h7).2.2 ∧ Q (some (.int v8)) h8))) ∧ (a3 = (-1) → gC l G d MX12_dreadOf [.ref 82, .int a1, .int a2, .int (-1)] h6 (rI fun v9 h9 => h9.2.2 = (h6).2.2 ∧ Q (some (.int v9)) h9)))) ∧ (a3 = a1 → Q (some (.int (-1))) h6)))))))))))))) : gg p l e s m args below meth c G (d + 1) MX12_dread Q 0 [some (.ref 82), some (.int a1), some (.int a2), some (.int a3)] [] h := by
  refine go_aload_n (x := 82) dX12_dread_0 rfl ?_
  refine go_iload_n (x := a1) dX12_dread_1 rfl ?_
  refine gvI1 MX12_isBoat dX12_dread_2 lX12_564 kX12_isBoat vX12_isBoat sh82 (by decide) rfl (Nat.le_of_ble_eq_true rfl) vc ?_
  intro v1 h1 vc
  obtain ⟨hR1, vc⟩ := vc
  replace hR := hR1.trans hR
  refine go_if_eq 34 dX12_dread_5 rfl (fun q => ?_) (fun q => ?_)
  · replace vc := vc.1 q
    refine go_iconst (v := (-1)) dX12_dread_34 rfl ?_
    exact go_iret dX12_dread_35 rfl vc rfl (Nat.le_refl _) (Nat.le_refl _)
  · replace vc := vc.2 q
    refine go_aload_n (x := 82) dX12_dread_8 rfl ?_
    refine go_iload_n (x := a2) dX12_dread_9 rfl ?_
    refine gvI1 MX12_isWater dX12_dread_10 lX12_556 kX12_isWater vX12_isWater sh82 (by decide) rfl (Nat.le_of_ble_eq_true rfl) vc ?_
    intro v2 h2 vc
    obtain ⟨hR2, vc⟩ := vc
    replace hR := hR2.trans hR
    refine go_if_eq 34 dX12_dread_13 rfl (fun q => ?_) (fun q => ?_)
    · replace vc := vc.1 q
      refine go_iconst (v := (-1)) dX12_dread_34 rfl ?_
      exact go_iret dX12_dread_35 rfl vc rfl (Nat.le_refl _) (Nat.le_refl _)
    · replace vc := vc.2 q
      refine go_iload_n (x := a3) dX12_dread_16 rfl ?_
      refine go_iconst (v := (-1)) dX12_dread_17 rfl ?_
      refine go_icmp_eq 36 dX12_dread_18 rfl (fun q => ?_) (fun q => ?_)
      · replace vc := vc.1 q
        refine go_aload_n (x := 82) dX12_dread_36 rfl ?_
        refine go_iload_n (x := a1) dX12_dread_37 rfl ?_
        refine go_iload_n (x := a2) dX12_dread_38 rfl ?_
        refine go_iload_n (x := a3) dX12_dread_39 rfl ?_
        refine go_iconst (v := (-1)) dX12_dread_40 rfl ?_
        refine go_icmp_ne 48 dX12_dread_41 rfl (fun q => ?_) (fun q => ?_)
        · replace vc := vc.1 q
          refine go_aload_n (x := 82) dX12_dread_48 rfl ?_
          refine go_iload_n (x := a3) dX12_dread_49 rfl ?_
          refine gvI1 MX12_trustOf dX12_dread_50 lX12_522 kX12_trustOf vX12_trustOf sh82 (by decide) rfl (Nat.le_of_ble_eq_true rfl) vc ?_
          intro v3 h3 vc
          obtain ⟨hR3, vc⟩ := vc
          replace hR := hR3.trans hR
          refine gvI3 MX12_dreadOf dX12_dread_53 lX12_541 kX12_dreadOf vX12_dreadOf sh82 (by decide) rfl (Nat.le_of_ble_eq_true rfl) vc ?_
          intro v4 h4 vc
          obtain ⟨hR4, vc⟩ := vc
          replace hR := hR4.trans hR
          exact go_iret dX12_dread_56 rfl vc rfl (Nat.le_refl _) (Nat.le_refl _)
        · replace vc := vc.2 q
          refine go_iconst (v := (-1)) dX12_dread_44 rfl ?_
          refine go_goto 53 dX12_dread_45 rfl ?_
          refine gvI3 MX12_dreadOf dX12_dread_53 lX12_541 kX12_dreadOf vX12_dreadOf sh82 (by decide) rfl (Nat.le_of_ble_eq_true rfl) vc ?_
          intro v5 h5 vc
          obtain ⟨hR5, vc⟩ := vc
          replace hR := hR5.trans hR
          exact go_iret dX12_dread_56 rfl vc rfl (Nat.le_refl _) (Nat.le_refl _)
      · replace vc := vc.2 q
        refine go_aload_n (x := 82) dX12_dread_21 rfl ?_
        refine go_iload_n (x := a3) dX12_dread_22 rfl ?_
        refine gvI1 MX12_isBoat dX12_dread_23 lX12_564 kX12_isBoat vX12_isBoat sh82 (by decide) rfl (Nat.le_of_ble_eq_true rfl) vc ?_
        intro v6 h6 vc
        obtain ⟨hR6, vc⟩ := vc
        replace hR := hR6.trans hR
        refine go_if_eq 34 dX12_dread_26 rfl (fun q => ?_) (fun q => ?_)
        · replace vc := vc.1 q
          refine go_iconst (v := (-1)) dX12_dread_34 rfl ?_
          exact go_iret dX12_dread_35 rfl vc rfl (Nat.le_refl _) (Nat.le_refl _)
        · replace vc := vc.2 q
          refine go_iload_n (x := a3) dX12_dread_29 rfl ?_
          refine go_iload_n (x := a1) dX12_dread_30 rfl ?_
          refine go_icmp_ne 36 dX12_dread_31 rfl (fun q => ?_) (fun q => ?_)
          · replace vc := vc.1 q
            refine go_aload_n (x := 82) dX12_dread_36 rfl ?_
            refine go_iload_n (x := a1) dX12_dread_37 rfl ?_
            refine go_iload_n (x := a2) dX12_dread_38 rfl ?_
            refine go_iload_n (x := a3) dX12_dread_39 rfl ?_
            refine go_iconst (v := (-1)) dX12_dread_40 rfl ?_
            refine go_icmp_ne 48 dX12_dread_41 rfl (fun q => ?_) (fun q => ?_)
            · replace vc := vc.1 q
              refine go_aload_n (x := 82) dX12_dread_48 rfl ?_
              refine go_iload_n (x := a3) dX12_dread_49 rfl ?_
              refine gvI1 MX12_trustOf dX12_dread_50 lX12_522 kX12_trustOf vX12_trustOf sh82 (by decide) rfl (Nat.le_of_ble_eq_true rfl) vc ?_
              intro v7 h7 vc
              obtain ⟨hR7, vc⟩ := vc
              replace hR := hR7.trans hR
              refine gvI3 MX12_dreadOf dX12_dread_53 lX12_541 kX12_dreadOf vX12_dreadOf sh82 (by decide) rfl (Nat.le_of_ble_eq_true rfl) vc ?_
              intro v8 h8 vc
              obtain ⟨hR8, vc⟩ := vc
              replace hR := hR8.trans hR
              exact go_iret dX12_dread_56 rfl vc rfl (Nat.le_refl _) (Nat.le_refl _)
            · replace vc := vc.2 q
              refine go_iconst (v := (-1)) dX12_dread_44 rfl ?_
              refine go_goto 53 dX12_dread_45 rfl ?_
              refine gvI3 MX12_dreadOf dX12_dread_53 lX12_541 kX12_dreadOf vX12_dreadOf sh82 (by decide) rfl (Nat.le_of_ble_eq_true rfl) vc ?_
              intro v9 h9 vc
              obtain ⟨hR9, vc⟩ := vc
              replace hR := hR9.trans hR
              exact go_iret dX12_dread_56 rfl vc rfl (Nat.le_refl _) (Nat.le_refl _)
          · replace vc := vc.2 q
            refine go_iconst (v := (-1)) dX12_dread_34 rfl ?_
            exact go_iret dX12_dread_35 rfl vc rfl (Nat.le_refl _) (Nat.le_refl _)
set_option maxRecDepth 20000 in
theorem wX12_laysSteps_0 {p : Program} {l : Launch} {e : Env} {s : State} {m : MethodId} {args : Array Value} {below : List Frame} {meth : Method} {c : Code} {G : gG} {d : Nat} {Q : Option Value → gH → Prop} {h : gH} {lk sp : Nat} {cd : Option Nat} {a1 : Int32} {a2 : Int32} (hR : h.2.2 = gRF lk sp cd) (hlk : lk = 30 ∨ lk = 67) (hsp : sp = 30 ∨ sp = 67)  (vc : gg p l e s m args below meth c G (d + 1) MX12_laysSteps Q 2 [some (.ref 82), some (.int a1), some (.int a2), some (.int 0), none, none, none] [] h) : gg p l e s m args below meth c G (d + 1) MX12_laysSteps Q 0 [some (.ref 82), some (.int a1), some (.int a2), none, none, none, none] [] h := by
  refine go_iconst (v := 0) dX12_laysSteps_0 rfl ?_
  refine go_istore_n dX12_laysSteps_1 (Nat.le_of_ble_eq_true rfl) ?_
  show gg p l e s m args below meth c G (d + 1) MX12_laysSteps Q 2 [some (.ref 82), some (.int a1), some (.int a2), some (.int 0), none, none, none] [] h
  exact vc
set_option maxRecDepth 20000 in
theorem wX12_laysSteps_2 {p : Program} {l : Launch} {e : Env} {s : State} {m : MethodId} {args : Array Value} {below : List Frame} {meth : Method} {c : Code} {G : gG} {d : Nat} {Q : Option Value → gH → Prop} {h : gH} {lk sp : Nat} {cd : Option Nat} {x1 : Int32} {x2 : Int32} {x3 : Int32} (hR : h.2.2 = gRF lk sp cd) (hlk : lk = 30 ∨ lk = 67) (hsp : sp = 30 ∨ sp = 67)  (vc : gC l G d MX12_cellMany [.ref 82] h (rI fun v1 h1 => h1.2.2 = (h).2.2 ∧ ((v1 ≤ x3 → gg p l e s m args below meth c G (d + 1) MX12_laysSteps Q 36 [some (.ref 82), some (.int x1), some (.int x2), some (.int 1), none, none, none] [] h1) ∧ (¬ v1 ≤ x3 → ((¬ x3 = x1 → (vp_in x3 48 ∧ gg p l e s m args below meth c G (d + 1) MX12_laysSteps Q 2 [some (.ref 82), some (.int x1), some (.int x2), some (.int (x3 + 1)), none, none, none] [] (sI h1 136 x3.toNatClampNeg 1000000))) ∧ (x3 = x1 → (vp_in x3 48 ∧ gg p l e s m args below meth c G (d + 1) MX12_laysSteps Q 2 [some (.ref 82), some (.int x1), some (.int x2), some (.int (x3 + 1)), none, none, none] [] (sI h1 136 x3.toNatClampNeg 0)))))))) : gg p l e s m args below meth c G (d + 1) MX12_laysSteps Q 2 [some (.ref 82), some (.int x1), some (.int x2), some (.int x3), none, none, none] [] h := by
  refine go_iload_n (x := x3) dX12_laysSteps_2 rfl ?_
  refine go_aload_n (x := 82) dX12_laysSteps_3 rfl ?_
  refine gvI0 MX12_cellMany dX12_laysSteps_4 lX12_480 kX12_cellMany vX12_cellMany sh82 (by decide) rfl (Nat.le_of_ble_eq_true rfl) vc ?_
  intro v1 h1 vc
  obtain ⟨hR1, vc⟩ := vc
  replace hR := hR1.trans hR
  refine go_icmp_ge 34 dX12_laysSteps_7 rfl (fun q => ?_) (fun q => ?_)
  · replace vc := vc.1 q
    refine go_iconst (v := 1) dX12_laysSteps_34 rfl ?_
    refine go_istore_n dX12_laysSteps_35 (Nat.le_of_ble_eq_true rfl) ?_
    show gg p l e s m args below meth c G (d + 1) MX12_laysSteps Q 36 [some (.ref 82), some (.int x1), some (.int x2), some (.int 1), none, none, none] [] h1
    exact vc
  · replace vc := vc.2 q
    refine go_aload_n (x := 82) dX12_laysSteps_10 rfl ?_
    refine go_getR (x := 136) dX12_laysSteps_11 f12_175 sh82 (fun _ _ => rfl) (rf82_71 hR) ?_
    refine go_iload_n (x := x3) dX12_laysSteps_14 rfl ?_
    refine go_iload_n (x := x3) dX12_laysSteps_15 rfl ?_
    refine go_iload_n (x := x1) dX12_laysSteps_16 rfl ?_
    refine go_icmp_ne 24 dX12_laysSteps_17 rfl (fun q => ?_) (fun q => ?_)
    · replace vc := vc.1 q
      refine go_ldcw (v := 1000000) dX12_laysSteps_24 nX12_586 ?_
      refine go_iast dX12_laysSteps_27 sh136 vc.1 ?_
      have vc := vc.2
      show gg p l e s m args below meth c G (d + 1) MX12_laysSteps Q 28 [some (.ref 82), some (.int x1), some (.int x2), some (.int x3), none, none, none] [] (sI h1 136 x3.toNatClampNeg 1000000)
      refine go_iinc (x := x3) dX12_laysSteps_28 rfl ?_
      show gg p l e s m args below meth c G (d + 1) MX12_laysSteps Q 31 [some (.ref 82), some (.int x1), some (.int x2), some (.int (x3 + 1)), none, none, none] [] (sI h1 136 x3.toNatClampNeg 1000000)
      refine go_goto 2 dX12_laysSteps_31 rfl ?_
      exact vc
    · replace vc := vc.2 q
      refine go_iconst (v := 0) dX12_laysSteps_20 rfl ?_
      refine go_goto 27 dX12_laysSteps_21 rfl ?_
      refine go_iast dX12_laysSteps_27 sh136 vc.1 ?_
      have vc := vc.2
      show gg p l e s m args below meth c G (d + 1) MX12_laysSteps Q 28 [some (.ref 82), some (.int x1), some (.int x2), some (.int x3), none, none, none] [] (sI h1 136 x3.toNatClampNeg 0)
      refine go_iinc (x := x3) dX12_laysSteps_28 rfl ?_
      show gg p l e s m args below meth c G (d + 1) MX12_laysSteps Q 31 [some (.ref 82), some (.int x1), some (.int x2), some (.int (x3 + 1)), none, none, none] [] (sI h1 136 x3.toNatClampNeg 0)
      refine go_goto 2 dX12_laysSteps_31 rfl ?_
      exact vc
set_option maxRecDepth 20000 in
theorem wX12_laysSteps_36 {p : Program} {l : Launch} {e : Env} {s : State} {m : MethodId} {args : Array Value} {below : List Frame} {meth : Method} {c : Code} {G : gG} {d : Nat} {Q : Option Value → gH → Prop} {h : gH} {lk sp : Nat} {cd : Option Nat} {x1 : Int32} {x2 : Int32} {x3 : Int32} (hR : h.2.2 = gRF lk sp cd) (hlk : lk = 30 ∨ lk = 67) (hsp : sp = 30 ∨ sp = 67)  (vc : ((x3 = 0 → Q none h) ∧ (¬ x3 = 0 → gg p l e s m args below meth c G (d + 1) MX12_laysSteps Q 45 [some (.ref 82), some (.int x1), some (.int x2), some (.int 0), some (.int 0), none, none] [] h))) : gg p l e s m args below meth c G (d + 1) MX12_laysSteps Q 36 [some (.ref 82), some (.int x1), some (.int x2), some (.int x3), none, none, none] [] h := by
  refine go_iload_n (x := x3) dX12_laysSteps_36 rfl ?_
  refine go_if_eq 145 dX12_laysSteps_37 rfl (fun q => ?_) (fun q => ?_)
  · replace vc := vc.1 q
    exact go_vret dX12_laysSteps_145 rfl vc rfl (Nat.le_refl _) (Nat.le_refl _)
  · replace vc := vc.2 q
    refine go_iconst (v := 0) dX12_laysSteps_40 rfl ?_
    refine go_istore_n dX12_laysSteps_41 (Nat.le_of_ble_eq_true rfl) ?_
    show gg p l e s m args below meth c G (d + 1) MX12_laysSteps Q 42 [some (.ref 82), some (.int x1), some (.int x2), some (.int 0), none, none, none] [] h
    refine go_iconst (v := 0) dX12_laysSteps_42 rfl ?_
    refine go_istore dX12_laysSteps_43 (Nat.le_of_ble_eq_true rfl) ?_
    show gg p l e s m args below meth c G (d + 1) MX12_laysSteps Q 45 [some (.ref 82), some (.int x1), some (.int x2), some (.int 0), some (.int 0), none, none] [] h
    exact vc
set_option maxRecDepth 20000 in
theorem wX12_laysSteps_45 {p : Program} {l : Launch} {e : Env} {s : State} {m : MethodId} {args : Array Value} {below : List Frame} {meth : Method} {c : Code} {G : gG} {d : Nat} {Q : Option Value → gH → Prop} {h : gH} {lk sp : Nat} {cd : Option Nat} {x1 : Int32} {x2 : Int32} {x3 : Int32} {x4 : Int32} (hR : h.2.2 = gRF lk sp cd) (hlk : lk = 30 ∨ lk = 67) (hsp : sp = 30 ∨ sp = 67)  (vc : gC l G d MX12_cellMany [.ref 82] h (rI fun v1 h1 => h1.2.2 = (h).2.2 ∧ ((v1 ≤ x4 → gg p l e s m args below meth c G (d + 1) MX12_laysSteps Q 36 [some (.ref 82), some (.int x1), some (.int x2), some (.int x3), none, none, none] [] h1) ∧ (¬ v1 ≤ x4 → gg p l e s m args below meth c G (d + 1) MX12_laysSteps Q 57 [some (.ref 82), some (.int x1), some (.int x2), some (.int x3), some (.int x4), some (.int 0), none] [] h1)))) : gg p l e s m args below meth c G (d + 1) MX12_laysSteps Q 45 [some (.ref 82), some (.int x1), some (.int x2), some (.int x3), some (.int x4), none, none] [] h := by
  refine go_iload (x := x4) dX12_laysSteps_45 rfl ?_
  refine go_aload_n (x := 82) dX12_laysSteps_47 rfl ?_
  refine gvI0 MX12_cellMany dX12_laysSteps_48 lX12_480 kX12_cellMany vX12_cellMany sh82 (by decide) rfl (Nat.le_of_ble_eq_true rfl) vc ?_
  intro v1 h1 vc
  obtain ⟨hR1, vc⟩ := vc
  replace hR := hR1.trans hR
  refine go_icmp_ge 142 dX12_laysSteps_51 rfl (fun q => ?_) (fun q => ?_)
  · replace vc := vc.1 q
    refine go_goto 36 dX12_laysSteps_142 rfl ?_
    refine go_weak (ls' := [some (.ref 82), some (.int x1), some (.int x2), some (.int x3), none, none, none]) ?_ vc
    exact (⟨rfl, ⟨rfl, ⟨rfl, ⟨rfl, trivial⟩⟩⟩⟩)
  · replace vc := vc.2 q
    refine go_iconst (v := 0) dX12_laysSteps_54 rfl ?_
    refine go_istore dX12_laysSteps_55 (Nat.le_of_ble_eq_true rfl) ?_
    show gg p l e s m args below meth c G (d + 1) MX12_laysSteps Q 57 [some (.ref 82), some (.int x1), some (.int x2), some (.int x3), some (.int x4), some (.int 0), none] [] h1
    exact vc
set_option maxRecDepth 20000 in
theorem wX12_laysSteps_57 {p : Program} {l : Launch} {e : Env} {s : State} {m : MethodId} {args : Array Value} {below : List Frame} {meth : Method} {c : Code} {G : gG} {d : Nat} {Q : Option Value → gH → Prop} {h : gH} {lk sp : Nat} {cd : Option Nat} {x1 : Int32} {x2 : Int32} {x3 : Int32} {x4 : Int32} {x5 : Int32} (hR : h.2.2 = gRF lk sp cd) (hlk : lk = 30 ∨ lk = 67) (hsp : sp = 30 ∨ sp = 67)  (vc : ((4 ≤ x5 → gg p l e s m args below meth c G (d + 1) MX12_laysSteps Q 45 [some (.ref 82), some (.int x1), some (.int x2), some (.int x3), some (.int (x4 + 1)), none, none] [] h) ∧ (¬ 4 ≤ x5 → gC l G d MX12_beside [.ref 82, .int x4, .int x5] h (rI fun v1 h1 => h1.2.2 = (h).2.2 ∧ ((v1 = (-1) → gg p l e s m args below meth c G (d + 1) MX12_laysSteps Q 57 [some (.ref 82), some (.int x1), some (.int x2), some (.int x3), some (.int x4), some (.int (x5 + 1)), none] [] h1) ∧ (¬ v1 = (-1) → (vp_in v1 48 ∧ ((x2 < (h1.1 135 v1.toNatClampNeg) → gg p l e s m args below meth c G (d + 1) MX12_laysSteps Q 57 [some (.ref 82), some (.int x1), some (.int x2), some (.int x3), some (.int x4), some (.int (x5 + 1)), none] [] h1) ∧ (¬ x2 < (h1.1 135 v1.toNatClampNeg) → (vp_in v1 48 ∧ (vp_in x4 48 ∧ ((((h1.1 136 v1.toNatClampNeg) + 1) < (h1.1 136 x4.toNatClampNeg) → (vp_in v1 48 ∧ (vp_in x4 48 ∧ gg p l e s m args below meth c G (d + 1) MX12_laysSteps Q 57 [some (.ref 82), some (.int x1), some (.int x2), some (.int 1), some (.int x4), some (.int (x5 + 1)), none] [] (sI h1 136 x4.toNatClampNeg ((h1.1 136 v1.toNatClampNeg) + 1))))) ∧ (¬ ((h1.1 136 v1.toNatClampNeg) + 1) < (h1.1 136 x4.toNatClampNeg) → gg p l e s m args below meth c G (d + 1) MX12_laysSteps Q 57 [some (.ref 82), some (.int x1), some (.int x2), some (.int x3), some (.int x4), some (.int (x5 + 1)), none] [] h1))))))))))))) : gg p l e s m args below meth c G (d + 1) MX12_laysSteps Q 57 [some (.ref 82), some (.int x1), some (.int x2), some (.int x3), some (.int x4), some (.int x5), none] [] h := by
  refine go_iload (x := x5) dX12_laysSteps_57 rfl ?_
  refine go_iconst (v := 4) dX12_laysSteps_59 rfl ?_
  refine go_icmp_ge 136 dX12_laysSteps_60 rfl (fun q => ?_) (fun q => ?_)
  · replace vc := vc.1 q
    refine go_iinc (x := x4) dX12_laysSteps_136 rfl ?_
    show gg p l e s m args below meth c G (d + 1) MX12_laysSteps Q 139 [some (.ref 82), some (.int x1), some (.int x2), some (.int x3), some (.int (x4 + 1)), some (.int x5), none] [] h
    refine go_goto 45 dX12_laysSteps_139 rfl ?_
    refine go_weak (ls' := [some (.ref 82), some (.int x1), some (.int x2), some (.int x3), some (.int (x4 + 1)), none, none]) ?_ vc
    exact (⟨rfl, ⟨rfl, ⟨rfl, ⟨rfl, ⟨rfl, trivial⟩⟩⟩⟩⟩)
  · replace vc := vc.2 q
    refine go_aload_n (x := 82) dX12_laysSteps_63 rfl ?_
    refine go_iload (x := x4) dX12_laysSteps_64 rfl ?_
    refine go_iload (x := x5) dX12_laysSteps_66 rfl ?_
    refine gvI2 MX12_beside dX12_laysSteps_68 lX12_587 kX12_beside vX12_beside sh82 (by decide) rfl (Nat.le_of_ble_eq_true rfl) vc ?_
    intro v1 h1 vc
    obtain ⟨hR1, vc⟩ := vc
    replace hR := hR1.trans hR
    refine go_istore dX12_laysSteps_71 (Nat.le_of_ble_eq_true rfl) ?_
    show gg p l e s m args below meth c G (d + 1) MX12_laysSteps Q 73 [some (.ref 82), some (.int x1), some (.int x2), some (.int x3), some (.int x4), some (.int x5), some (.int v1)] [] h1
    refine go_iload (x := v1) dX12_laysSteps_73 rfl ?_
    refine go_iconst (v := (-1)) dX12_laysSteps_75 rfl ?_
    refine go_icmp_eq 130 dX12_laysSteps_76 rfl (fun q => ?_) (fun q => ?_)
    · replace vc := vc.1 q
      refine go_iinc (x := x5) dX12_laysSteps_130 rfl ?_
      show gg p l e s m args below meth c G (d + 1) MX12_laysSteps Q 133 [some (.ref 82), some (.int x1), some (.int x2), some (.int x3), some (.int x4), some (.int (x5 + 1)), some (.int v1)] [] h1
      refine go_goto 57 dX12_laysSteps_133 rfl ?_
      refine go_weak (ls' := [some (.ref 82), some (.int x1), some (.int x2), some (.int x3), some (.int x4), some (.int (x5 + 1)), none]) ?_ vc
      exact (⟨rfl, ⟨rfl, ⟨rfl, ⟨rfl, ⟨rfl, ⟨rfl, trivial⟩⟩⟩⟩⟩⟩)
    · replace vc := vc.2 q
      refine go_aload_n (x := 82) dX12_laysSteps_79 rfl ?_
      refine go_getR (x := 135) dX12_laysSteps_80 f12_172 sh82 (fun _ _ => rfl) (rf82_70 hR) ?_
      refine go_iload (x := v1) dX12_laysSteps_83 rfl ?_
      refine go_iald' (v := (h1.1 135 v1.toNatClampNeg)) dX12_laysSteps_85 sh135 vc.1 rfl ?_
      have vc := vc.2
      refine go_iload_n (x := x2) dX12_laysSteps_86 rfl ?_
      refine go_icmp_gt 130 dX12_laysSteps_87 rfl (fun q => ?_) (fun q => ?_)
      · replace vc := vc.1 q
        refine go_iinc (x := x5) dX12_laysSteps_130 rfl ?_
        show gg p l e s m args below meth c G (d + 1) MX12_laysSteps Q 133 [some (.ref 82), some (.int x1), some (.int x2), some (.int x3), some (.int x4), some (.int (x5 + 1)), some (.int v1)] [] h1
        refine go_goto 57 dX12_laysSteps_133 rfl ?_
        refine go_weak (ls' := [some (.ref 82), some (.int x1), some (.int x2), some (.int x3), some (.int x4), some (.int (x5 + 1)), none]) ?_ vc
        exact (⟨rfl, ⟨rfl, ⟨rfl, ⟨rfl, ⟨rfl, ⟨rfl, trivial⟩⟩⟩⟩⟩⟩)
      · replace vc := vc.2 q
        refine go_aload_n (x := 82) dX12_laysSteps_90 rfl ?_
        refine go_getR (x := 136) dX12_laysSteps_91 f12_175 sh82 (fun _ _ => rfl) (rf82_71 hR) ?_
        refine go_iload (x := v1) dX12_laysSteps_94 rfl ?_
        refine go_iald' (v := (h1.1 136 v1.toNatClampNeg)) dX12_laysSteps_96 sh136 vc.1 rfl ?_
        have vc := vc.2
        refine go_iconst (v := 1) dX12_laysSteps_97 rfl ?_
        refine go_iadd dX12_laysSteps_98 ?_
        refine go_aload_n (x := 82) dX12_laysSteps_99 rfl ?_
        refine go_getR (x := 136) dX12_laysSteps_100 f12_175 sh82 (fun _ _ => rfl) (rf82_71 hR) ?_
        refine go_iload (x := x4) dX12_laysSteps_103 rfl ?_
        refine go_iald' (v := (h1.1 136 x4.toNatClampNeg)) dX12_laysSteps_105 sh136 vc.1 rfl ?_
        have vc := vc.2
        refine go_icmp_lt 112 dX12_laysSteps_106 rfl (fun q => ?_) (fun q => ?_)
        · replace vc := vc.1 q
          refine go_aload_n (x := 82) dX12_laysSteps_112 rfl ?_
          refine go_getR (x := 136) dX12_laysSteps_113 f12_175 sh82 (fun _ _ => rfl) (rf82_71 hR) ?_
          refine go_iload (x := x4) dX12_laysSteps_116 rfl ?_
          refine go_aload_n (x := 82) dX12_laysSteps_118 rfl ?_
          refine go_getR (x := 136) dX12_laysSteps_119 f12_175 sh82 (fun _ _ => rfl) (rf82_71 hR) ?_
          refine go_iload (x := v1) dX12_laysSteps_122 rfl ?_
          refine go_iald' (v := (h1.1 136 v1.toNatClampNeg)) dX12_laysSteps_124 sh136 vc.1 rfl ?_
          have vc := vc.2
          refine go_iconst (v := 1) dX12_laysSteps_125 rfl ?_
          refine go_iadd dX12_laysSteps_126 ?_
          refine go_iast dX12_laysSteps_127 sh136 vc.1 ?_
          have vc := vc.2
          show gg p l e s m args below meth c G (d + 1) MX12_laysSteps Q 128 [some (.ref 82), some (.int x1), some (.int x2), some (.int x3), some (.int x4), some (.int x5), some (.int v1)] [] (sI h1 136 x4.toNatClampNeg ((h1.1 136 v1.toNatClampNeg) + 1))
          refine go_iconst (v := 1) dX12_laysSteps_128 rfl ?_
          refine go_istore_n dX12_laysSteps_129 (Nat.le_of_ble_eq_true rfl) ?_
          show gg p l e s m args below meth c G (d + 1) MX12_laysSteps Q 130 [some (.ref 82), some (.int x1), some (.int x2), some (.int 1), some (.int x4), some (.int x5), some (.int v1)] [] (sI h1 136 x4.toNatClampNeg ((h1.1 136 v1.toNatClampNeg) + 1))
          refine go_iinc (x := x5) dX12_laysSteps_130 rfl ?_
          show gg p l e s m args below meth c G (d + 1) MX12_laysSteps Q 133 [some (.ref 82), some (.int x1), some (.int x2), some (.int 1), some (.int x4), some (.int (x5 + 1)), some (.int v1)] [] (sI h1 136 x4.toNatClampNeg ((h1.1 136 v1.toNatClampNeg) + 1))
          refine go_goto 57 dX12_laysSteps_133 rfl ?_
          refine go_weak (ls' := [some (.ref 82), some (.int x1), some (.int x2), some (.int 1), some (.int x4), some (.int (x5 + 1)), none]) ?_ vc
          exact (⟨rfl, ⟨rfl, ⟨rfl, ⟨rfl, ⟨rfl, ⟨rfl, trivial⟩⟩⟩⟩⟩⟩)
        · replace vc := vc.2 q
          refine go_goto 130 dX12_laysSteps_109 rfl ?_
          refine go_iinc (x := x5) dX12_laysSteps_130 rfl ?_
          show gg p l e s m args below meth c G (d + 1) MX12_laysSteps Q 133 [some (.ref 82), some (.int x1), some (.int x2), some (.int x3), some (.int x4), some (.int (x5 + 1)), some (.int v1)] [] h1
          refine go_goto 57 dX12_laysSteps_133 rfl ?_
          refine go_weak (ls' := [some (.ref 82), some (.int x1), some (.int x2), some (.int x3), some (.int x4), some (.int (x5 + 1)), none]) ?_ vc
          exact (⟨rfl, ⟨rfl, ⟨rfl, ⟨rfl, ⟨rfl, ⟨rfl, trivial⟩⟩⟩⟩⟩⟩)
set_option maxRecDepth 20000 in
theorem wX12_nextStep_0 {p : Program} {l : Launch} {e : Env} {s : State} {m : MethodId} {args : Array Value} {below : List Frame} {meth : Method} {c : Code} {G : gG} {d : Nat} {Q : Option Value → gH → Prop} {h : gH} {lk sp : Nat} {cd : Option Nat} {a1 : Int32} {a2 : Int32} (hR : h.2.2 = gRF lk sp cd) (hlk : lk = 30 ∨ lk = 67) (hsp : sp = 30 ∨ sp = 67)  (vc : gg p l e s m args below meth c G (d + 1) MX12_nextStep Q 5 [some (.ref 82), some (.int a1), some (.int a2), some (.int (-1)), some (.int 0), none] [] h) : gg p l e s m args below meth c G (d + 1) MX12_nextStep Q 0 [some (.ref 82), some (.int a1), some (.int a2), none, none, none] [] h := by
  refine go_iconst (v := (-1)) dX12_nextStep_0 rfl ?_
  refine go_istore_n dX12_nextStep_1 (Nat.le_of_ble_eq_true rfl) ?_
  show gg p l e s m args below meth c G (d + 1) MX12_nextStep Q 2 [some (.ref 82), some (.int a1), some (.int a2), some (.int (-1)), none, none] [] h
  refine go_iconst (v := 0) dX12_nextStep_2 rfl ?_
  refine go_istore dX12_nextStep_3 (Nat.le_of_ble_eq_true rfl) ?_
  show gg p l e s m args below meth c G (d + 1) MX12_nextStep Q 5 [some (.ref 82), some (.int a1), some (.int a2), some (.int (-1)), some (.int 0), none] [] h
  exact vc
set_option maxRecDepth 20000 in
theorem wX12_nextStep_5 {p : Program} {l : Launch} {e : Env} {s : State} {m : MethodId} {args : Array Value} {below : List Frame} {meth : Method} {c : Code} {G : gG} {d : Nat} {Q : Option Value → gH → Prop} {h : gH} {lk sp : Nat} {cd : Option Nat} {x1 : Int32} {x2 : Int32} {x3 : Int32} {x4 : Int32} (hR : h.2.2 = gRF lk sp cd) (hlk : lk = 30 ∨ lk = 67) (hsp : sp = 30 ∨ sp = 67)  (vc : ((4 ≤ x4 → Q (some (.int x3)) h) ∧ (¬ 4 ≤ x4 → gC l G d MX12_beside [.ref 82, .int x1, .int x4] h (rI fun v1 h1 => h1.2.2 = (h).2.2 ∧ ((v1 = (-1) → gg p l e s m args below meth c G (d + 1) MX12_nextStep Q 5 [some (.ref 82), some (.int x1), some (.int x2), some (.int x3), some (.int (x4 + 1)), none] [] h1) ∧ (¬ v1 = (-1) → (vp_in v1 48 ∧ ((x2 < (h1.1 135 v1.toNatClampNeg) → gg p l e s m args below meth c G (d + 1) MX12_nextStep Q 5 [some (.ref 82), some (.int x1), some (.int x2), some (.int x3), some (.int (x4 + 1)), none] [] h1) ∧ (¬ x2 < (h1.1 135 v1.toNatClampNeg) → (vp_in v1 48 ∧ (vp_in x1 48 ∧ ((((h1.1 136 v1.toNatClampNeg) + 1) = (h1.1 136 x1.toNatClampNeg) → ((x3 = (-1) → gg p l e s m args below meth c G (d + 1) MX12_nextStep Q 5 [some (.ref 82), some (.int x1), some (.int x2), some (.int v1), some (.int (x4 + 1)), none] [] h1) ∧ (¬ x3 = (-1) → ((x3 ≤ v1 → gg p l e s m args below meth c G (d + 1) MX12_nextStep Q 5 [some (.ref 82), some (.int x1), some (.int x2), some (.int x3), some (.int (x4 + 1)), none] [] h1) ∧ (¬ x3 ≤ v1 → gg p l e s m args below meth c G (d + 1) MX12_nextStep Q 5 [some (.ref 82), some (.int x1), some (.int x2), some (.int v1), some (.int (x4 + 1)), none] [] h1))))) ∧ (¬ ((h1.1 136 v1.toNatClampNeg) + 1) = (h1.1 136 x1.toNatClampNeg) → gg p l e s m args below meth c G (d + 1) MX12_nextStep Q 5 [some (.ref 82), some (.int x1), some (.int x2), some (.int x3), some (.int (x4 + 1)), none] [] h1))))))))))))) : gg p l e s m args below meth c G (d + 1) MX12_nextStep Q 5 [some (.ref 82), some (.int x1), some (.int x2), some (.int x3), some (.int x4), none] [] h := by
  refine go_iload (x := x4) dX12_nextStep_5 rfl ?_
  refine go_iconst (v := 4) dX12_nextStep_7 rfl ?_
  refine go_icmp_ge 78 dX12_nextStep_8 rfl (fun q => ?_) (fun q => ?_)
  · replace vc := vc.1 q
    refine go_iload_n (x := x3) dX12_nextStep_78 rfl ?_
    exact go_iret dX12_nextStep_79 rfl vc rfl (Nat.le_refl _) (Nat.le_refl _)
  · replace vc := vc.2 q
    refine go_aload_n (x := 82) dX12_nextStep_11 rfl ?_
    refine go_iload_n (x := x1) dX12_nextStep_12 rfl ?_
    refine go_iload (x := x4) dX12_nextStep_13 rfl ?_
    refine gvI2 MX12_beside dX12_nextStep_15 lX12_587 kX12_beside vX12_beside sh82 (by decide) rfl (Nat.le_of_ble_eq_true rfl) vc ?_
    intro v1 h1 vc
    obtain ⟨hR1, vc⟩ := vc
    replace hR := hR1.trans hR
    refine go_istore dX12_nextStep_18 (Nat.le_of_ble_eq_true rfl) ?_
    show gg p l e s m args below meth c G (d + 1) MX12_nextStep Q 20 [some (.ref 82), some (.int x1), some (.int x2), some (.int x3), some (.int x4), some (.int v1)] [] h1
    refine go_iload (x := v1) dX12_nextStep_20 rfl ?_
    refine go_iconst (v := (-1)) dX12_nextStep_22 rfl ?_
    refine go_icmp_eq 72 dX12_nextStep_23 rfl (fun q => ?_) (fun q => ?_)
    · replace vc := vc.1 q
      refine go_iinc (x := x4) dX12_nextStep_72 rfl ?_
      show gg p l e s m args below meth c G (d + 1) MX12_nextStep Q 75 [some (.ref 82), some (.int x1), some (.int x2), some (.int x3), some (.int (x4 + 1)), some (.int v1)] [] h1
      refine go_goto 5 dX12_nextStep_75 rfl ?_
      refine go_weak (ls' := [some (.ref 82), some (.int x1), some (.int x2), some (.int x3), some (.int (x4 + 1)), none]) ?_ vc
      exact (⟨rfl, ⟨rfl, ⟨rfl, ⟨rfl, ⟨rfl, trivial⟩⟩⟩⟩⟩)
    · replace vc := vc.2 q
      refine go_aload_n (x := 82) dX12_nextStep_26 rfl ?_
      refine go_getR (x := 135) dX12_nextStep_27 f12_172 sh82 (fun _ _ => rfl) (rf82_70 hR) ?_
      refine go_iload (x := v1) dX12_nextStep_30 rfl ?_
      refine go_iald' (v := (h1.1 135 v1.toNatClampNeg)) dX12_nextStep_32 sh135 vc.1 rfl ?_
      have vc := vc.2
      refine go_iload_n (x := x2) dX12_nextStep_33 rfl ?_
      refine go_icmp_gt 72 dX12_nextStep_34 rfl (fun q => ?_) (fun q => ?_)
      · replace vc := vc.1 q
        refine go_iinc (x := x4) dX12_nextStep_72 rfl ?_
        show gg p l e s m args below meth c G (d + 1) MX12_nextStep Q 75 [some (.ref 82), some (.int x1), some (.int x2), some (.int x3), some (.int (x4 + 1)), some (.int v1)] [] h1
        refine go_goto 5 dX12_nextStep_75 rfl ?_
        refine go_weak (ls' := [some (.ref 82), some (.int x1), some (.int x2), some (.int x3), some (.int (x4 + 1)), none]) ?_ vc
        exact (⟨rfl, ⟨rfl, ⟨rfl, ⟨rfl, ⟨rfl, trivial⟩⟩⟩⟩⟩)
      · replace vc := vc.2 q
        refine go_aload_n (x := 82) dX12_nextStep_37 rfl ?_
        refine go_getR (x := 136) dX12_nextStep_38 f12_175 sh82 (fun _ _ => rfl) (rf82_71 hR) ?_
        refine go_iload (x := v1) dX12_nextStep_41 rfl ?_
        refine go_iald' (v := (h1.1 136 v1.toNatClampNeg)) dX12_nextStep_43 sh136 vc.1 rfl ?_
        have vc := vc.2
        refine go_iconst (v := 1) dX12_nextStep_44 rfl ?_
        refine go_iadd dX12_nextStep_45 ?_
        refine go_aload_n (x := 82) dX12_nextStep_46 rfl ?_
        refine go_getR (x := 136) dX12_nextStep_47 f12_175 sh82 (fun _ _ => rfl) (rf82_71 hR) ?_
        refine go_iload_n (x := x1) dX12_nextStep_50 rfl ?_
        refine go_iald' (v := (h1.1 136 x1.toNatClampNeg)) dX12_nextStep_51 sh136 vc.1 rfl ?_
        have vc := vc.2
        refine go_icmp_eq 58 dX12_nextStep_52 rfl (fun q => ?_) (fun q => ?_)
        · replace vc := vc.1 q
          refine go_iload_n (x := x3) dX12_nextStep_58 rfl ?_
          refine go_iconst (v := (-1)) dX12_nextStep_59 rfl ?_
          refine go_icmp_eq 69 dX12_nextStep_60 rfl (fun q => ?_) (fun q => ?_)
          · replace vc := vc.1 q
            refine go_iload (x := v1) dX12_nextStep_69 rfl ?_
            refine go_istore_n dX12_nextStep_71 (Nat.le_of_ble_eq_true rfl) ?_
            show gg p l e s m args below meth c G (d + 1) MX12_nextStep Q 72 [some (.ref 82), some (.int x1), some (.int x2), some (.int v1), some (.int x4), some (.int v1)] [] h1
            refine go_iinc (x := x4) dX12_nextStep_72 rfl ?_
            show gg p l e s m args below meth c G (d + 1) MX12_nextStep Q 75 [some (.ref 82), some (.int x1), some (.int x2), some (.int v1), some (.int (x4 + 1)), some (.int v1)] [] h1
            refine go_goto 5 dX12_nextStep_75 rfl ?_
            refine go_weak (ls' := [some (.ref 82), some (.int x1), some (.int x2), some (.int v1), some (.int (x4 + 1)), none]) ?_ vc
            exact (⟨rfl, ⟨rfl, ⟨rfl, ⟨rfl, ⟨rfl, trivial⟩⟩⟩⟩⟩)
          · replace vc := vc.2 q
            refine go_iload (x := v1) dX12_nextStep_63 rfl ?_
            refine go_iload_n (x := x3) dX12_nextStep_65 rfl ?_
            refine go_icmp_ge 72 dX12_nextStep_66 rfl (fun q => ?_) (fun q => ?_)
            · replace vc := vc.1 q
              refine go_iinc (x := x4) dX12_nextStep_72 rfl ?_
              show gg p l e s m args below meth c G (d + 1) MX12_nextStep Q 75 [some (.ref 82), some (.int x1), some (.int x2), some (.int x3), some (.int (x4 + 1)), some (.int v1)] [] h1
              refine go_goto 5 dX12_nextStep_75 rfl ?_
              refine go_weak (ls' := [some (.ref 82), some (.int x1), some (.int x2), some (.int x3), some (.int (x4 + 1)), none]) ?_ vc
              exact (⟨rfl, ⟨rfl, ⟨rfl, ⟨rfl, ⟨rfl, trivial⟩⟩⟩⟩⟩)
            · replace vc := vc.2 q
              refine go_iload (x := v1) dX12_nextStep_69 rfl ?_
              refine go_istore_n dX12_nextStep_71 (Nat.le_of_ble_eq_true rfl) ?_
              show gg p l e s m args below meth c G (d + 1) MX12_nextStep Q 72 [some (.ref 82), some (.int x1), some (.int x2), some (.int v1), some (.int x4), some (.int v1)] [] h1
              refine go_iinc (x := x4) dX12_nextStep_72 rfl ?_
              show gg p l e s m args below meth c G (d + 1) MX12_nextStep Q 75 [some (.ref 82), some (.int x1), some (.int x2), some (.int v1), some (.int (x4 + 1)), some (.int v1)] [] h1
              refine go_goto 5 dX12_nextStep_75 rfl ?_
              refine go_weak (ls' := [some (.ref 82), some (.int x1), some (.int x2), some (.int v1), some (.int (x4 + 1)), none]) ?_ vc
              exact (⟨rfl, ⟨rfl, ⟨rfl, ⟨rfl, ⟨rfl, trivial⟩⟩⟩⟩⟩)
        · replace vc := vc.2 q
          refine go_goto 72 dX12_nextStep_55 rfl ?_
          refine go_iinc (x := x4) dX12_nextStep_72 rfl ?_
          show gg p l e s m args below meth c G (d + 1) MX12_nextStep Q 75 [some (.ref 82), some (.int x1), some (.int x2), some (.int x3), some (.int (x4 + 1)), some (.int v1)] [] h1
          refine go_goto 5 dX12_nextStep_75 rfl ?_
          refine go_weak (ls' := [some (.ref 82), some (.int x1), some (.int x2), some (.int x3), some (.int (x4 + 1)), none]) ?_ vc
          exact (⟨rfl, ⟨rfl, ⟨rfl, ⟨rfl, ⟨rfl, trivial⟩⟩⟩⟩⟩)
set_option maxRecDepth 20000 in
theorem wX12_route_0 {p : Program} {l : Launch} {e : Env} {s : State} {m : MethodId} {args : Array Value} {below : List Frame} {meth : Method} {c : Code} {G : gG} {d : Nat} {Q : Option Value → gH → Prop} {h : gH} {lk sp : Nat} {cd : Option Nat} {a1 : Int32} {a2 : Int32} {a3 : Int32} (hR : h.2.2 = gRF lk sp cd) (hlk : lk = 30 ∨ lk = 67) (hsp : sp = 30 ∨ sp = 67)  (vc : gC l G d MX12_isBoat [.ref 82, .int a1] h (rI fun v1 h1 => h1.2.2 = (h).2.2 ∧ ((v1 = 0 → Q (some (.int (-1))) h1) ∧ (¬ v1 = 0 → gC l G d MX12_isWater [.ref 82, .int a2] h1 (rI fun v2 h2 => h2.2.2 = (h1).2.2 ∧ ((v2 = 0 → Q (some (.int (-1))) h2) ∧ (¬ v2 = 0 → (((-1) ≤ a3 → gC l G d MX12_laysFears [.ref 82, .int a1] h2 (rV fun h3 => h3.2.2 = (h2).2.2 ∧ gC l G d MX12_trustOf [.ref 82, .int a1] h3 (rI fun v4 h4 => h4.2.2 = (h3).2.2 ∧ gC l G d MX12_laysSteps [.ref 82, .int a2, .int v4] h4 (rV fun h5 => h5.2.2 = (h4).2.2 ∧ gC l G d MX12_cellOf [.ref 82, .int a1] h5 (rI fun v6 h6 => h6.2.2 = (h5).2.2 ∧ (vp_in v6 48 ∧ (((h6.1 136 v6.toNatClampNeg) < 1000000 → ((¬ a3 = (-1) → (vp_in v6 48 ∧ ((a3 < (h6.1 136 v6.toNatClampNeg) → gg p l e s m args below meth c G (d + 1) MX12_route Q 89 [some (.ref 82), some (.int a1), some (.int a2), some (.int a3), some (.int v6), some (.int 0)] [] h6) ∧ (¬ a3 < (h6.1 136 v6.toNatClampNeg) → Q (some (.int (-1))) h6)))) ∧ (a3 = (-1) → (vp_in v6 48 ∧ Q (some (.int (h6.1 136 v6.toNatClampNeg))) h6)))) ∧ (¬ (h6.1 136 v6.toNatClampNeg) < 1000000 → Q (some (.int (-1))) h6)))))))) ∧ (¬ (-1) ≤ a3 → Q (some (.int (-1))) h2))))))))) : gg p l e s m args below meth c G (d + 1) MX12_route Q 0 [some (.ref 82), some (.int a1), some (.int a2), some (.int a3), none, none] [] h := by
  refine go_aload_n (x := 82) dX12_route_0 rfl ?_
  refine go_iload_n (x := a1) dX12_route_1 rfl ?_
  refine gvI1 MX12_isBoat dX12_route_2 lX12_564 kX12_isBoat vX12_isBoat sh82 (by decide) rfl (Nat.le_of_ble_eq_true rfl) vc ?_
  intro v1 h1 vc
  obtain ⟨hR1, vc⟩ := vc
  replace hR := hR1.trans hR
  refine go_if_eq 21 dX12_route_5 rfl (fun q => ?_) (fun q => ?_)
  · replace vc := vc.1 q
    refine go_iconst (v := (-1)) dX12_route_21 rfl ?_
    exact go_iret dX12_route_22 rfl vc rfl (Nat.le_refl _) (Nat.le_refl _)
  · replace vc := vc.2 q
    refine go_aload_n (x := 82) dX12_route_8 rfl ?_
    refine go_iload_n (x := a2) dX12_route_9 rfl ?_
    refine gvI1 MX12_isWater dX12_route_10 lX12_556 kX12_isWater vX12_isWater sh82 (by decide) rfl (Nat.le_of_ble_eq_true rfl) vc ?_
    intro v2 h2 vc
    obtain ⟨hR2, vc⟩ := vc
    replace hR := hR2.trans hR
    refine go_if_eq 21 dX12_route_13 rfl (fun q => ?_) (fun q => ?_)
    · replace vc := vc.1 q
      refine go_iconst (v := (-1)) dX12_route_21 rfl ?_
      exact go_iret dX12_route_22 rfl vc rfl (Nat.le_refl _) (Nat.le_refl _)
    · replace vc := vc.2 q
      refine go_iload_n (x := a3) dX12_route_16 rfl ?_
      refine go_iconst (v := (-1)) dX12_route_17 rfl ?_
      refine go_icmp_ge 23 dX12_route_18 rfl (fun q => ?_) (fun q => ?_)
      · replace vc := vc.1 q
        refine go_aload_n (x := 82) dX12_route_23 rfl ?_
        refine go_iload_n (x := a1) dX12_route_24 rfl ?_
        refine gvV1 MX12_laysFears dX12_route_25 lX12_590 kX12_laysFears vX12_laysFears sh82 (by decide) rfl (Nat.le_of_ble_eq_true rfl) vc ?_
        intro h3 vc
        obtain ⟨hR3, vc⟩ := vc
        replace hR := hR3.trans hR
        refine go_aload_n (x := 82) dX12_route_28 rfl ?_
        refine go_iload_n (x := a2) dX12_route_29 rfl ?_
        refine go_aload_n (x := 82) dX12_route_30 rfl ?_
        refine go_iload_n (x := a1) dX12_route_31 rfl ?_
        refine gvI1 MX12_trustOf dX12_route_32 lX12_522 kX12_trustOf vX12_trustOf sh82 (by decide) rfl (Nat.le_of_ble_eq_true rfl) vc ?_
        intro v4 h4 vc
        obtain ⟨hR4, vc⟩ := vc
        replace hR := hR4.trans hR
        refine gvV2 MX12_laysSteps dX12_route_35 lX12_593 kX12_laysSteps vX12_laysSteps sh82 (by decide) rfl (Nat.le_of_ble_eq_true rfl) vc ?_
        intro h5 vc
        obtain ⟨hR5, vc⟩ := vc
        replace hR := hR5.trans hR
        refine go_aload_n (x := 82) dX12_route_38 rfl ?_
        refine go_iload_n (x := a1) dX12_route_39 rfl ?_
        refine gvI1 MX12_cellOf dX12_route_40 lX12_504 kX12_cellOf vX12_cellOf sh82 (by decide) rfl (Nat.le_of_ble_eq_true rfl) vc ?_
        intro v6 h6 vc
        obtain ⟨hR6, vc⟩ := vc
        replace hR := hR6.trans hR
        refine go_istore dX12_route_43 (Nat.le_of_ble_eq_true rfl) ?_
        show gg p l e s m args below meth c G (d + 1) MX12_route Q 45 [some (.ref 82), some (.int a1), some (.int a2), some (.int a3), some (.int v6), none] [] h6
        refine go_aload_n (x := 82) dX12_route_45 rfl ?_
        refine go_getR (x := 136) dX12_route_46 f12_175 sh82 (fun _ _ => rfl) (rf82_71 hR) ?_
        refine go_iload (x := v6) dX12_route_49 rfl ?_
        refine go_iald' (v := (h6.1 136 v6.toNatClampNeg)) dX12_route_51 sh136 vc.1 rfl ?_
        have vc := vc.2
        refine go_ldcw (v := 1000000) dX12_route_52 nX12_586 ?_
        refine go_icmp_lt 60 dX12_route_55 rfl (fun q => ?_) (fun q => ?_)
        · replace vc := vc.1 q
          refine go_iload_n (x := a3) dX12_route_60 rfl ?_
          refine go_iconst (v := (-1)) dX12_route_61 rfl ?_
          refine go_icmp_ne 73 dX12_route_62 rfl (fun q => ?_) (fun q => ?_)
          · replace vc := vc.1 q
            refine go_iload_n (x := a3) dX12_route_73 rfl ?_
            refine go_aload_n (x := 82) dX12_route_74 rfl ?_
            refine go_getR (x := 136) dX12_route_75 f12_175 sh82 (fun _ _ => rfl) (rf82_71 hR) ?_
            refine go_iload (x := v6) dX12_route_78 rfl ?_
            refine go_iald' (v := (h6.1 136 v6.toNatClampNeg)) dX12_route_80 sh136 vc.1 rfl ?_
            have vc := vc.2
            refine go_icmp_lt 86 dX12_route_81 rfl (fun q => ?_) (fun q => ?_)
            · replace vc := vc.1 q
              refine go_iconst (v := 0) dX12_route_86 rfl ?_
              refine go_istore dX12_route_87 (Nat.le_of_ble_eq_true rfl) ?_
              show gg p l e s m args below meth c G (d + 1) MX12_route Q 89 [some (.ref 82), some (.int a1), some (.int a2), some (.int a3), some (.int v6), some (.int 0)] [] h6
              exact vc
            · replace vc := vc.2 q
              refine go_iconst (v := (-1)) dX12_route_84 rfl ?_
              exact go_iret dX12_route_85 rfl vc rfl (Nat.le_refl _) (Nat.le_refl _)
          · replace vc := vc.2 q
            refine go_aload_n (x := 82) dX12_route_65 rfl ?_
            refine go_getR (x := 136) dX12_route_66 f12_175 sh82 (fun _ _ => rfl) (rf82_71 hR) ?_
            refine go_iload (x := v6) dX12_route_69 rfl ?_
            refine go_iald' (v := (h6.1 136 v6.toNatClampNeg)) dX12_route_71 sh136 vc.1 rfl ?_
            have vc := vc.2
            exact go_iret dX12_route_72 rfl vc rfl (Nat.le_refl _) (Nat.le_refl _)
        · replace vc := vc.2 q
          refine go_iconst (v := (-1)) dX12_route_58 rfl ?_
          exact go_iret dX12_route_59 rfl vc rfl (Nat.le_refl _) (Nat.le_refl _)
      · replace vc := vc.2 q
        refine go_iconst (v := (-1)) dX12_route_21 rfl ?_
        exact go_iret dX12_route_22 rfl vc rfl (Nat.le_refl _) (Nat.le_refl _)
set_option maxRecDepth 20000 in
theorem wX12_route_89 {p : Program} {l : Launch} {e : Env} {s : State} {m : MethodId} {args : Array Value} {below : List Frame} {meth : Method} {c : Code} {G : gG} {d : Nat} {Q : Option Value → gH → Prop} {h : gH} {lk sp : Nat} {cd : Option Nat} {x1 : Int32} {x2 : Int32} {x3 : Int32} {x4 : Int32} {x5 : Int32} (hR : h.2.2 = gRF lk sp cd) (hlk : lk = 30 ∨ lk = 67) (hsp : sp = 30 ∨ sp = 67)  (vc : ((x3 < x5 → Q (some (.int x4)) h) ∧ (¬ x3 < x5 → gC l G d MX12_trustOf [.ref 82, .int x1] h (rI fun v1 h1 => h1.2.2 = (h).2.2 ∧ gC l G d MX12_nextStep [.ref 82, .int x4, .int v1] h1 (rI fun v2 h2 => h2.2.2 = (h1).2.2 ∧ gg p l e s m args below meth c G (d + 1) MX12_route Q 89 [some (.ref 82), some (.int x1), some (.int x2), some (.int x3), some (.int v2), some (.int (x5 + 1))] [] h2))))) : gg p l e s m args below meth c G (d + 1) MX12_route Q 89 [some (.ref 82), some (.int x1), some (.int x2), some (.int x3), some (.int x4), some (.int x5)] [] h := by
  refine go_iload (x := x5) dX12_route_89 rfl ?_
  refine go_iload_n (x := x3) dX12_route_91 rfl ?_
  refine go_icmp_gt 114 dX12_route_92 rfl (fun q => ?_) (fun q => ?_)
  · replace vc := vc.1 q
    refine go_iload (x := x4) dX12_route_114 rfl ?_
    exact go_iret dX12_route_116 rfl vc rfl (Nat.le_refl _) (Nat.le_refl _)
  · replace vc := vc.2 q
    refine go_aload_n (x := 82) dX12_route_95 rfl ?_
    refine go_iload (x := x4) dX12_route_96 rfl ?_
    refine go_aload_n (x := 82) dX12_route_98 rfl ?_
    refine go_iload_n (x := x1) dX12_route_99 rfl ?_
    refine gvI1 MX12_trustOf dX12_route_100 lX12_522 kX12_trustOf vX12_trustOf sh82 (by decide) rfl (Nat.le_of_ble_eq_true rfl) vc ?_
    intro v1 h1 vc
    obtain ⟨hR1, vc⟩ := vc
    replace hR := hR1.trans hR
    refine gvI2 MX12_nextStep dX12_route_103 lX12_596 kX12_nextStep vX12_nextStep sh82 (by decide) rfl (Nat.le_of_ble_eq_true rfl) vc ?_
    intro v2 h2 vc
    obtain ⟨hR2, vc⟩ := vc
    replace hR := hR2.trans hR
    refine go_istore dX12_route_106 (Nat.le_of_ble_eq_true rfl) ?_
    show gg p l e s m args below meth c G (d + 1) MX12_route Q 108 [some (.ref 82), some (.int x1), some (.int x2), some (.int x3), some (.int v2), some (.int x5)] [] h2
    refine go_iinc (x := x5) dX12_route_108 rfl ?_
    show gg p l e s m args below meth c G (d + 1) MX12_route Q 111 [some (.ref 82), some (.int x1), some (.int x2), some (.int x3), some (.int v2), some (.int (x5 + 1))] [] h2
    refine go_goto 89 dX12_route_111 rfl ?_
    exact vc
set_option maxRecDepth 20000 in
theorem wX12_greater_0 {p : Program} {l : Launch} {e : Env} {s : State} {m : MethodId} {args : Array Value} {below : List Frame} {meth : Method} {c : Code} {G : gG} {d : Nat} {Q : Option Value → gH → Prop} {h : gH} {lk sp : Nat} {cd : Option Nat} {a1 : Int32} {a2 : Int32} (hR : h.2.2 = gRF lk sp cd) (hlk : lk = 30 ∨ lk = 67) (hsp : sp = 30 ∨ sp = 67)  (vc : ((a1 ≤ a2 → Q (some (.int a2)) h) ∧ (¬ a1 ≤ a2 → Q (some (.int a1)) h))) : gg p l e s m args below meth c G d MX12_greater Q 0 [some (.int a1), some (.int a2)] [] h := by
  refine go_iload_n (x := a1) dX12_greater_0 rfl ?_
  refine go_iload_n (x := a2) dX12_greater_1 rfl ?_
  refine go_icmp_le 9 dX12_greater_2 rfl (fun q => ?_) (fun q => ?_)
  · replace vc := vc.1 q
    refine go_iload_n (x := a2) dX12_greater_9 rfl ?_
    exact go_iret dX12_greater_10 rfl vc rfl (Nat.le_refl _) (Nat.le_refl _)
  · replace vc := vc.2 q
    refine go_iload_n (x := a1) dX12_greater_5 rfl ?_
    refine go_goto 10 dX12_greater_6 rfl ?_
    exact go_iret dX12_greater_10 rfl vc rfl (Nat.le_refl _) (Nat.le_refl _)
set_option maxRecDepth 20000 in
theorem wX12_laysGentle_0 {p : Program} {l : Launch} {e : Env} {s : State} {m : MethodId} {args : Array Value} {below : List Frame} {meth : Method} {c : Code} {G : gG} {d : Nat} {Q : Option Value → gH → Prop} {h : gH} {lk sp : Nat} {cd : Option Nat} {a1 : Int32} (hR : h.2.2 = gRF lk sp cd) (hlk : lk = 30 ∨ lk = 67) (hsp : sp = 30 ∨ sp = 67)  (vc : gg p l e s m args below meth c G (d + 1) MX12_laysGentle Q 2 [some (.ref 82), some (.int a1), some (.int 0), none, none, none] [] h) : gg p l e s m args below meth c G (d + 1) MX12_laysGentle Q 0 [some (.ref 82), some (.int a1), none, none, none, none] [] h := by
  refine go_iconst (v := 0) dX12_laysGentle_0 rfl ?_
  refine go_istore_n dX12_laysGentle_1 (Nat.le_of_ble_eq_true rfl) ?_
  show gg p l e s m args below meth c G (d + 1) MX12_laysGentle Q 2 [some (.ref 82), some (.int a1), some (.int 0), none, none, none] [] h
  exact vc
set_option maxRecDepth 20000 in
theorem wX12_laysGentle_2 {p : Program} {l : Launch} {e : Env} {s : State} {m : MethodId} {args : Array Value} {below : List Frame} {meth : Method} {c : Code} {G : gG} {d : Nat} {Q : Option Value → gH → Prop} {h : gH} {lk sp : Nat} {cd : Option Nat} {x1 : Int32} {x2 : Int32} (hR : h.2.2 = gRF lk sp cd) (hlk : lk = 30 ∨ lk = 67) (hsp : sp = 30 ∨ sp = 67)  (vc : gC l G d MX12_cellMany [.ref 82] h (rI fun v1 h1 => h1.2.2 = (h).2.2 ∧ ((v1 ≤ x2 → gg p l e s m args below meth c G (d + 1) MX12_laysGentle Q 36 [some (.ref 82), some (.int x1), some (.int 1), none, none, none] [] h1) ∧ (¬ v1 ≤ x2 → ((¬ x2 = x1 → (vp_in x2 48 ∧ gg p l e s m args below meth c G (d + 1) MX12_laysGentle Q 2 [some (.ref 82), some (.int x1), some (.int (x2 + 1)), none, none, none] [] (sI h1 136 x2.toNatClampNeg 1000000))) ∧ (x2 = x1 → (vp_in x2 48 ∧ gg p l e s m args below meth c G (d + 1) MX12_laysGentle Q 2 [some (.ref 82), some (.int x1), some (.int (x2 + 1)), none, none, none] [] (sI h1 136 x2.toNatClampNeg 0)))))))) : gg p l e s m args below meth c G (d + 1) MX12_laysGentle Q 2 [some (.ref 82), some (.int x1), some (.int x2), none, none, none] [] h := by
  refine go_iload_n (x := x2) dX12_laysGentle_2 rfl ?_
  refine go_aload_n (x := 82) dX12_laysGentle_3 rfl ?_
  refine gvI0 MX12_cellMany dX12_laysGentle_4 lX12_480 kX12_cellMany vX12_cellMany sh82 (by decide) rfl (Nat.le_of_ble_eq_true rfl) vc ?_
  intro v1 h1 vc
  obtain ⟨hR1, vc⟩ := vc
  replace hR := hR1.trans hR
  refine go_icmp_ge 34 dX12_laysGentle_7 rfl (fun q => ?_) (fun q => ?_)
  · replace vc := vc.1 q
    refine go_iconst (v := 1) dX12_laysGentle_34 rfl ?_
    refine go_istore_n dX12_laysGentle_35 (Nat.le_of_ble_eq_true rfl) ?_
    show gg p l e s m args below meth c G (d + 1) MX12_laysGentle Q 36 [some (.ref 82), some (.int x1), some (.int 1), none, none, none] [] h1
    exact vc
  · replace vc := vc.2 q
    refine go_aload_n (x := 82) dX12_laysGentle_10 rfl ?_
    refine go_getR (x := 136) dX12_laysGentle_11 f12_175 sh82 (fun _ _ => rfl) (rf82_71 hR) ?_
    refine go_iload_n (x := x2) dX12_laysGentle_14 rfl ?_
    refine go_iload_n (x := x2) dX12_laysGentle_15 rfl ?_
    refine go_iload_n (x := x1) dX12_laysGentle_16 rfl ?_
    refine go_icmp_ne 24 dX12_laysGentle_17 rfl (fun q => ?_) (fun q => ?_)
    · replace vc := vc.1 q
      refine go_ldcw (v := 1000000) dX12_laysGentle_24 nX12_586 ?_
      refine go_iast dX12_laysGentle_27 sh136 vc.1 ?_
      have vc := vc.2
      show gg p l e s m args below meth c G (d + 1) MX12_laysGentle Q 28 [some (.ref 82), some (.int x1), some (.int x2), none, none, none] [] (sI h1 136 x2.toNatClampNeg 1000000)
      refine go_iinc (x := x2) dX12_laysGentle_28 rfl ?_
      show gg p l e s m args below meth c G (d + 1) MX12_laysGentle Q 31 [some (.ref 82), some (.int x1), some (.int (x2 + 1)), none, none, none] [] (sI h1 136 x2.toNatClampNeg 1000000)
      refine go_goto 2 dX12_laysGentle_31 rfl ?_
      exact vc
    · replace vc := vc.2 q
      refine go_iconst (v := 0) dX12_laysGentle_20 rfl ?_
      refine go_goto 27 dX12_laysGentle_21 rfl ?_
      refine go_iast dX12_laysGentle_27 sh136 vc.1 ?_
      have vc := vc.2
      show gg p l e s m args below meth c G (d + 1) MX12_laysGentle Q 28 [some (.ref 82), some (.int x1), some (.int x2), none, none, none] [] (sI h1 136 x2.toNatClampNeg 0)
      refine go_iinc (x := x2) dX12_laysGentle_28 rfl ?_
      show gg p l e s m args below meth c G (d + 1) MX12_laysGentle Q 31 [some (.ref 82), some (.int x1), some (.int (x2 + 1)), none, none, none] [] (sI h1 136 x2.toNatClampNeg 0)
      refine go_goto 2 dX12_laysGentle_31 rfl ?_
      exact vc
set_option maxRecDepth 20000 in
theorem wX12_laysGentle_36 {p : Program} {l : Launch} {e : Env} {s : State} {m : MethodId} {args : Array Value} {below : List Frame} {meth : Method} {c : Code} {G : gG} {d : Nat} {Q : Option Value → gH → Prop} {h : gH} {lk sp : Nat} {cd : Option Nat} {x1 : Int32} {x2 : Int32} (hR : h.2.2 = gRF lk sp cd) (hlk : lk = 30 ∨ lk = 67) (hsp : sp = 30 ∨ sp = 67)  (vc : ((x2 = 0 → Q none h) ∧ (¬ x2 = 0 → gg p l e s m args below meth c G (d + 1) MX12_laysGentle Q 44 [some (.ref 82), some (.int x1), some (.int 0), some (.int 0), none, none] [] h))) : gg p l e s m args below meth c G (d + 1) MX12_laysGentle Q 36 [some (.ref 82), some (.int x1), some (.int x2), none, none, none] [] h := by
  refine go_iload_n (x := x2) dX12_laysGentle_36 rfl ?_
  refine go_if_eq 145 dX12_laysGentle_37 rfl (fun q => ?_) (fun q => ?_)
  · replace vc := vc.1 q
    exact go_vret dX12_laysGentle_145 rfl vc rfl (Nat.le_refl _) (Nat.le_refl _)
  · replace vc := vc.2 q
    refine go_iconst (v := 0) dX12_laysGentle_40 rfl ?_
    refine go_istore_n dX12_laysGentle_41 (Nat.le_of_ble_eq_true rfl) ?_
    show gg p l e s m args below meth c G (d + 1) MX12_laysGentle Q 42 [some (.ref 82), some (.int x1), some (.int 0), none, none, none] [] h
    refine go_iconst (v := 0) dX12_laysGentle_42 rfl ?_
    refine go_istore_n dX12_laysGentle_43 (Nat.le_of_ble_eq_true rfl) ?_
    show gg p l e s m args below meth c G (d + 1) MX12_laysGentle Q 44 [some (.ref 82), some (.int x1), some (.int 0), some (.int 0), none, none] [] h
    exact vc
set_option maxRecDepth 20000 in
theorem wX12_laysGentle_44 {p : Program} {l : Launch} {e : Env} {s : State} {m : MethodId} {args : Array Value} {below : List Frame} {meth : Method} {c : Code} {G : gG} {d : Nat} {Q : Option Value → gH → Prop} {h : gH} {lk sp : Nat} {cd : Option Nat} {x1 : Int32} {x2 : Int32} {x3 : Int32} (hR : h.2.2 = gRF lk sp cd) (hlk : lk = 30 ∨ lk = 67) (hsp : sp = 30 ∨ sp = 67)  (vc : gC l G d MX12_cellMany [.ref 82] h (rI fun v1 h1 => h1.2.2 = (h).2.2 ∧ ((v1 ≤ x3 → gg p l e s m args below meth c G (d + 1) MX12_laysGentle Q 36 [some (.ref 82), some (.int x1), some (.int x2), none, none, none] [] h1) ∧ (¬ v1 ≤ x3 → gg p l e s m args below meth c G (d + 1) MX12_laysGentle Q 55 [some (.ref 82), some (.int x1), some (.int x2), some (.int x3), some (.int 0), none] [] h1)))) : gg p l e s m args below meth c G (d + 1) MX12_laysGentle Q 44 [some (.ref 82), some (.int x1), some (.int x2), some (.int x3), none, none] [] h := by
  refine go_iload_n (x := x3) dX12_laysGentle_44 rfl ?_
  refine go_aload_n (x := 82) dX12_laysGentle_45 rfl ?_
  refine gvI0 MX12_cellMany dX12_laysGentle_46 lX12_480 kX12_cellMany vX12_cellMany sh82 (by decide) rfl (Nat.le_of_ble_eq_true rfl) vc ?_
  intro v1 h1 vc
  obtain ⟨hR1, vc⟩ := vc
  replace hR := hR1.trans hR
  refine go_icmp_ge 142 dX12_laysGentle_49 rfl (fun q => ?_) (fun q => ?_)
  · replace vc := vc.1 q
    refine go_goto 36 dX12_laysGentle_142 rfl ?_
    refine go_weak (ls' := [some (.ref 82), some (.int x1), some (.int x2), none, none, none]) ?_ vc
    exact (⟨rfl, ⟨rfl, ⟨rfl, trivial⟩⟩⟩)
  · replace vc := vc.2 q
    refine go_iconst (v := 0) dX12_laysGentle_52 rfl ?_
    refine go_istore dX12_laysGentle_53 (Nat.le_of_ble_eq_true rfl) ?_
    show gg p l e s m args below meth c G (d + 1) MX12_laysGentle Q 55 [some (.ref 82), some (.int x1), some (.int x2), some (.int x3), some (.int 0), none] [] h1
    exact vc
set_option maxRecDepth 20000 in
theorem wX12_laysGentle_55 {p : Program} {l : Launch} {e : Env} {s : State} {m : MethodId} {args : Array Value} {below : List Frame} {meth : Method} {c : Code} {G : gG} {d : Nat} {Q : Option Value → gH → Prop} {h : gH} {lk sp : Nat} {cd : Option Nat} {x1 : Int32} {x2 : Int32} {x3 : Int32} {x4 : Int32} (hR : h.2.2 = gRF lk sp cd) (hlk : lk = 30 ∨ lk = 67) (hsp : sp = 30 ∨ sp = 67)  (vc : ((4 ≤ x4 → gg p l e s m args below meth c G (d + 1) MX12_laysGentle Q 44 [some (.ref 82), some (.int x1), some (.int x2), some (.int (x3 + 1)), none, none] [] h) ∧ (¬ 4 ≤ x4 → gC l G d MX12_beside [.ref 82, .int x3, .int x4] h (rI fun v1 h1 => h1.2.2 = (h).2.2 ∧ ((v1 = (-1) → gg p l e s m args below meth c G (d + 1) MX12_laysGentle Q 55 [some (.ref 82), some (.int x1), some (.int x2), some (.int x3), some (.int (x4 + 1)), none] [] h1) ∧ (¬ v1 = (-1) → (vp_in v1 48 ∧ (vp_in v1 48 ∧ gC l G d MX12_greater [.int (h1.1 135 v1.toNatClampNeg), .int (h1.1 136 v1.toNatClampNeg)] h1 (rI fun v2 h2 => h2.2.2 = (h1).2.2 ∧ (vp_in x3 48 ∧ ((v2 < (h2.1 136 x3.toNatClampNeg) → (vp_in v1 48 ∧ (vp_in v1 48 ∧ gC l G d MX12_greater [.int (h2.1 135 v1.toNatClampNeg), .int (h2.1 136 v1.toNatClampNeg)] h2 (rI fun v3 h3 => h3.2.2 = (h2).2.2 ∧ (vp_in x3 48 ∧ gg p l e s m args below meth c G (d + 1) MX12_laysGentle Q 55 [some (.ref 82), some (.int x1), some (.int 1), some (.int x3), some (.int (x4 + 1)), none] [] (sI h3 136 x3.toNatClampNeg v3)))))) ∧ (¬ v2 < (h2.1 136 x3.toNatClampNeg) → gg p l e s m args below meth c G (d + 1) MX12_laysGentle Q 55 [some (.ref 82), some (.int x1), some (.int x2), some (.int x3), some (.int (x4 + 1)), none] [] h2)))))))))))) : gg p l e s m args below meth c G (d + 1) MX12_laysGentle Q 55 [some (.ref 82), some (.int x1), some (.int x2), some (.int x3), some (.int x4), none] [] h := by
  refine go_iload (x := x4) dX12_laysGentle_55 rfl ?_
  refine go_iconst (v := 4) dX12_laysGentle_57 rfl ?_
  refine go_icmp_ge 136 dX12_laysGentle_58 rfl (fun q => ?_) (fun q => ?_)
  · replace vc := vc.1 q
    refine go_iinc (x := x3) dX12_laysGentle_136 rfl ?_
    show gg p l e s m args below meth c G (d + 1) MX12_laysGentle Q 139 [some (.ref 82), some (.int x1), some (.int x2), some (.int (x3 + 1)), some (.int x4), none] [] h
    refine go_goto 44 dX12_laysGentle_139 rfl ?_
    refine go_weak (ls' := [some (.ref 82), some (.int x1), some (.int x2), some (.int (x3 + 1)), none, none]) ?_ vc
    exact (⟨rfl, ⟨rfl, ⟨rfl, ⟨rfl, trivial⟩⟩⟩⟩)
  · replace vc := vc.2 q
    refine go_aload_n (x := 82) dX12_laysGentle_61 rfl ?_
    refine go_iload_n (x := x3) dX12_laysGentle_62 rfl ?_
    refine go_iload (x := x4) dX12_laysGentle_63 rfl ?_
    refine gvI2 MX12_beside dX12_laysGentle_65 lX12_587 kX12_beside vX12_beside sh82 (by decide) rfl (Nat.le_of_ble_eq_true rfl) vc ?_
    intro v1 h1 vc
    obtain ⟨hR1, vc⟩ := vc
    replace hR := hR1.trans hR
    refine go_istore dX12_laysGentle_68 (Nat.le_of_ble_eq_true rfl) ?_
    show gg p l e s m args below meth c G (d + 1) MX12_laysGentle Q 70 [some (.ref 82), some (.int x1), some (.int x2), some (.int x3), some (.int x4), some (.int v1)] [] h1
    refine go_iload (x := v1) dX12_laysGentle_70 rfl ?_
    refine go_iconst (v := (-1)) dX12_laysGentle_72 rfl ?_
    refine go_icmp_eq 130 dX12_laysGentle_73 rfl (fun q => ?_) (fun q => ?_)
    · replace vc := vc.1 q
      refine go_iinc (x := x4) dX12_laysGentle_130 rfl ?_
      show gg p l e s m args below meth c G (d + 1) MX12_laysGentle Q 133 [some (.ref 82), some (.int x1), some (.int x2), some (.int x3), some (.int (x4 + 1)), some (.int v1)] [] h1
      refine go_goto 55 dX12_laysGentle_133 rfl ?_
      refine go_weak (ls' := [some (.ref 82), some (.int x1), some (.int x2), some (.int x3), some (.int (x4 + 1)), none]) ?_ vc
      exact (⟨rfl, ⟨rfl, ⟨rfl, ⟨rfl, ⟨rfl, trivial⟩⟩⟩⟩⟩)
    · replace vc := vc.2 q
      refine go_aload_n (x := 82) dX12_laysGentle_76 rfl ?_
      refine go_getR (x := 135) dX12_laysGentle_77 f12_172 sh82 (fun _ _ => rfl) (rf82_70 hR) ?_
      refine go_iload (x := v1) dX12_laysGentle_80 rfl ?_
      refine go_iald' (v := (h1.1 135 v1.toNatClampNeg)) dX12_laysGentle_82 sh135 vc.1 rfl ?_
      have vc := vc.2
      refine go_aload_n (x := 82) dX12_laysGentle_83 rfl ?_
      refine go_getR (x := 136) dX12_laysGentle_84 f12_175 sh82 (fun _ _ => rfl) (rf82_71 hR) ?_
      refine go_iload (x := v1) dX12_laysGentle_87 rfl ?_
      refine go_iald' (v := (h1.1 136 v1.toNatClampNeg)) dX12_laysGentle_89 sh136 vc.1 rfl ?_
      have vc := vc.2
      refine gsI2 MX12_greater dX12_laysGentle_90 lX12_599 kX12_greater sX12_greater (Nat.le_of_ble_eq_true rfl) vc ?_
      intro v2 h2 vc
      obtain ⟨hR2, vc⟩ := vc
      replace hR := hR2.trans hR
      refine go_aload_n (x := 82) dX12_laysGentle_93 rfl ?_
      refine go_getR (x := 136) dX12_laysGentle_94 f12_175 sh82 (fun _ _ => rfl) (rf82_71 hR) ?_
      refine go_iload_n (x := x3) dX12_laysGentle_97 rfl ?_
      refine go_iald' (v := (h2.1 136 x3.toNatClampNeg)) dX12_laysGentle_98 sh136 vc.1 rfl ?_
      have vc := vc.2
      refine go_icmp_lt 105 dX12_laysGentle_99 rfl (fun q => ?_) (fun q => ?_)
      · replace vc := vc.1 q
        refine go_aload_n (x := 82) dX12_laysGentle_105 rfl ?_
        refine go_getR (x := 136) dX12_laysGentle_106 f12_175 sh82 (fun _ _ => rfl) (rf82_71 hR) ?_
        refine go_iload_n (x := x3) dX12_laysGentle_109 rfl ?_
        refine go_aload_n (x := 82) dX12_laysGentle_110 rfl ?_
        refine go_getR (x := 135) dX12_laysGentle_111 f12_172 sh82 (fun _ _ => rfl) (rf82_70 hR) ?_
        refine go_iload (x := v1) dX12_laysGentle_114 rfl ?_
        refine go_iald' (v := (h2.1 135 v1.toNatClampNeg)) dX12_laysGentle_116 sh135 vc.1 rfl ?_
        have vc := vc.2
        refine go_aload_n (x := 82) dX12_laysGentle_117 rfl ?_
        refine go_getR (x := 136) dX12_laysGentle_118 f12_175 sh82 (fun _ _ => rfl) (rf82_71 hR) ?_
        refine go_iload (x := v1) dX12_laysGentle_121 rfl ?_
        refine go_iald' (v := (h2.1 136 v1.toNatClampNeg)) dX12_laysGentle_123 sh136 vc.1 rfl ?_
        have vc := vc.2
        refine gsI2 MX12_greater dX12_laysGentle_124 lX12_599 kX12_greater sX12_greater (Nat.le_of_ble_eq_true rfl) vc ?_
        intro v3 h3 vc
        obtain ⟨hR3, vc⟩ := vc
        replace hR := hR3.trans hR
        refine go_iast dX12_laysGentle_127 sh136 vc.1 ?_
        have vc := vc.2
        show gg p l e s m args below meth c G (d + 1) MX12_laysGentle Q 128 [some (.ref 82), some (.int x1), some (.int x2), some (.int x3), some (.int x4), some (.int v1)] [] (sI h3 136 x3.toNatClampNeg v3)
        refine go_iconst (v := 1) dX12_laysGentle_128 rfl ?_
        refine go_istore_n dX12_laysGentle_129 (Nat.le_of_ble_eq_true rfl) ?_
        show gg p l e s m args below meth c G (d + 1) MX12_laysGentle Q 130 [some (.ref 82), some (.int x1), some (.int 1), some (.int x3), some (.int x4), some (.int v1)] [] (sI h3 136 x3.toNatClampNeg v3)
        refine go_iinc (x := x4) dX12_laysGentle_130 rfl ?_
        show gg p l e s m args below meth c G (d + 1) MX12_laysGentle Q 133 [some (.ref 82), some (.int x1), some (.int 1), some (.int x3), some (.int (x4 + 1)), some (.int v1)] [] (sI h3 136 x3.toNatClampNeg v3)
        refine go_goto 55 dX12_laysGentle_133 rfl ?_
        refine go_weak (ls' := [some (.ref 82), some (.int x1), some (.int 1), some (.int x3), some (.int (x4 + 1)), none]) ?_ vc
        exact (⟨rfl, ⟨rfl, ⟨rfl, ⟨rfl, ⟨rfl, trivial⟩⟩⟩⟩⟩)
      · replace vc := vc.2 q
        refine go_goto 130 dX12_laysGentle_102 rfl ?_
        refine go_iinc (x := x4) dX12_laysGentle_130 rfl ?_
        show gg p l e s m args below meth c G (d + 1) MX12_laysGentle Q 133 [some (.ref 82), some (.int x1), some (.int x2), some (.int x3), some (.int (x4 + 1)), some (.int v1)] [] h2
        refine go_goto 55 dX12_laysGentle_133 rfl ?_
        refine go_weak (ls' := [some (.ref 82), some (.int x1), some (.int x2), some (.int x3), some (.int (x4 + 1)), none]) ?_ vc
        exact (⟨rfl, ⟨rfl, ⟨rfl, ⟨rfl, ⟨rfl, trivial⟩⟩⟩⟩⟩)
set_option maxRecDepth 20000 in
theorem wX12_gentle_0 {p : Program} {l : Launch} {e : Env} {s : State} {m : MethodId} {args : Array Value} {below : List Frame} {meth : Method} {c : Code} {G : gG} {d : Nat} {Q : Option Value → gH → Prop} {h : gH} {lk sp : Nat} {cd : Option Nat} {a1 : Int32} {a2 : Int32} {a3 : Int32} (hR : h.2.2 = gRF lk sp cd) (hlk : lk = 30 ∨ lk = 67) (hsp : sp = 30 ∨ sp = 67)  (vc : gC l G d MX12_isBoat [.ref 82, .int a1] h (rI fun v1 h1 => h1.2.2 = (h).2.2 ∧ ((v1 = 0 → Q (some (.int (-1))) h1) ∧ (¬ v1 = 0 → gC l G d MX12_isWater [.ref 82, .int a2] h1 (rI fun v2 h2 => h2.2.2 = (h1).2.2 ∧ ((v2 = 0 → Q (some (.int (-1))) h2) ∧ (¬ v2 = 0 → gC l G d MX12_isIn [.long (a3 : Int32).toInt64, .long 0, .long 1] h2 (rI fun v3 h3 => h3.2.2 = (h2).2.2 ∧ ((¬ v3 = 0 → gC l G d MX12_laysFears [.ref 82, .int a1] h3 (rV fun h4 => h4.2.2 = (h3).2.2 ∧ gC l G d MX12_laysGentle [.ref 82, .int a2] h4 (rV fun h5 => h5.2.2 = (h4).2.2 ∧ gC l G d MX12_cellOf [.ref 82, .int a1] h5 (rI fun v6 h6 => h6.2.2 = (h5).2.2 ∧ (vp_in v6 48 ∧ (((h6.1 136 v6.toNatClampNeg) < 1000000 → gC l G d MX12_trustOf [.ref 82, .int a1] h6 (rI fun v7 h7 => h7.2.2 = (h6).2.2 ∧ ((¬ a3 = 0 → ((0 < ((h6.1 136 v6.toNatClampNeg) - v7) → (¬ (h7.1 126 1) = 0 ∧ Q (some (.int (((((h6.1 136 v6.toNatClampNeg) - v7) + (h7.1 126 1)) - 1) / (h7.1 126 1)))) h7)) ∧ (¬ 0 < ((h6.1 136 v6.toNatClampNeg) - v7) → Q (some (.int 0)) h7))) ∧ (a3 = 0 → Q (some (.int (h6.1 136 v6.toNatClampNeg))) h7)))) ∧ (¬ (h6.1 136 v6.toNatClampNeg) < 1000000 → Q (some (.int (-1))) h6))))))) ∧ (v3 = 0 → Q (some (.int (-1))) h3)))))))))) : gg p l e s m args below meth c G (d + 1) MX12_gentle Q 0 [some (.ref 82), some (.int a1), some (.int a2), some (.int a3), none, none] [] h := by
  refine go_aload_n (x := 82) dX12_gentle_0 rfl ?_
  refine go_iload_n (x := a1) dX12_gentle_1 rfl ?_
  refine gvI1 MX12_isBoat dX12_gentle_2 lX12_564 kX12_isBoat vX12_isBoat sh82 (by decide) rfl (Nat.le_of_ble_eq_true rfl) vc ?_
  intro v1 h1 vc
  obtain ⟨hR1, vc⟩ := vc
  replace hR := hR1.trans hR
  refine go_if_eq 26 dX12_gentle_5 rfl (fun q => ?_) (fun q => ?_)
  · replace vc := vc.1 q
    refine go_iconst (v := (-1)) dX12_gentle_26 rfl ?_
    exact go_iret dX12_gentle_27 rfl vc rfl (Nat.le_refl _) (Nat.le_refl _)
  · replace vc := vc.2 q
    refine go_aload_n (x := 82) dX12_gentle_8 rfl ?_
    refine go_iload_n (x := a2) dX12_gentle_9 rfl ?_
    refine gvI1 MX12_isWater dX12_gentle_10 lX12_556 kX12_isWater vX12_isWater sh82 (by decide) rfl (Nat.le_of_ble_eq_true rfl) vc ?_
    intro v2 h2 vc
    obtain ⟨hR2, vc⟩ := vc
    replace hR := hR2.trans hR
    refine go_if_eq 26 dX12_gentle_13 rfl (fun q => ?_) (fun q => ?_)
    · replace vc := vc.1 q
      refine go_iconst (v := (-1)) dX12_gentle_26 rfl ?_
      exact go_iret dX12_gentle_27 rfl vc rfl (Nat.le_refl _) (Nat.le_refl _)
    · replace vc := vc.2 q
      refine go_iload_n (x := a3) dX12_gentle_16 rfl ?_
      refine go_i2l dX12_gentle_17 ?_
      refine go_lconst (v := 0) dX12_gentle_18 rfl ?_
      refine go_lconst (v := 1) dX12_gentle_19 rfl ?_
      refine gsI3 MX12_isIn dX12_gentle_20 lX12_321 kX12_isIn sX12_isIn (Nat.le_of_ble_eq_true rfl) vc ?_
      intro v3 h3 vc
      obtain ⟨hR3, vc⟩ := vc
      replace hR := hR3.trans hR
      refine go_if_ne 28 dX12_gentle_23 rfl (fun q => ?_) (fun q => ?_)
      · replace vc := vc.1 q
        refine go_aload_n (x := 82) dX12_gentle_28 rfl ?_
        refine go_iload_n (x := a1) dX12_gentle_29 rfl ?_
        refine gvV1 MX12_laysFears dX12_gentle_30 lX12_590 kX12_laysFears vX12_laysFears sh82 (by decide) rfl (Nat.le_of_ble_eq_true rfl) vc ?_
        intro h4 vc
        obtain ⟨hR4, vc⟩ := vc
        replace hR := hR4.trans hR
        refine go_aload_n (x := 82) dX12_gentle_33 rfl ?_
        refine go_iload_n (x := a2) dX12_gentle_34 rfl ?_
        refine gvV1 MX12_laysGentle dX12_gentle_35 lX12_602 kX12_laysGentle vX12_laysGentle sh82 (by decide) rfl (Nat.le_of_ble_eq_true rfl) vc ?_
        intro h5 vc
        obtain ⟨hR5, vc⟩ := vc
        replace hR := hR5.trans hR
        refine go_aload_n (x := 82) dX12_gentle_38 rfl ?_
        refine go_getR (x := 136) dX12_gentle_39 f12_175 sh82 (fun _ _ => rfl) (rf82_71 hR) ?_
        refine go_aload_n (x := 82) dX12_gentle_42 rfl ?_
        refine go_iload_n (x := a1) dX12_gentle_43 rfl ?_
        refine gvI1 MX12_cellOf dX12_gentle_44 lX12_504 kX12_cellOf vX12_cellOf sh82 (by decide) rfl (Nat.le_of_ble_eq_true rfl) vc ?_
        intro v6 h6 vc
        obtain ⟨hR6, vc⟩ := vc
        replace hR := hR6.trans hR
        refine go_iald' (v := (h6.1 136 v6.toNatClampNeg)) dX12_gentle_47 sh136 vc.1 rfl ?_
        have vc := vc.2
        refine go_istore dX12_gentle_48 (Nat.le_of_ble_eq_true rfl) ?_
        show gg p l e s m args below meth c G (d + 1) MX12_gentle Q 50 [some (.ref 82), some (.int a1), some (.int a2), some (.int a3), some (.int (h6.1 136 v6.toNatClampNeg)), none] [] h6
        refine go_iload (x := (h6.1 136 v6.toNatClampNeg)) dX12_gentle_50 rfl ?_
        refine go_ldcw (v := 1000000) dX12_gentle_52 nX12_586 ?_
        refine go_icmp_lt 60 dX12_gentle_55 rfl (fun q => ?_) (fun q => ?_)
        · replace vc := vc.1 q
          refine go_iload (x := (h6.1 136 v6.toNatClampNeg)) dX12_gentle_60 rfl ?_
          refine go_aload_n (x := 82) dX12_gentle_62 rfl ?_
          refine go_iload_n (x := a1) dX12_gentle_63 rfl ?_
          refine gvI1 MX12_trustOf dX12_gentle_64 lX12_522 kX12_trustOf vX12_trustOf sh82 (by decide) rfl (Nat.le_of_ble_eq_true rfl) vc ?_
          intro v7 h7 vc
          obtain ⟨hR7, vc⟩ := vc
          replace hR := hR7.trans hR
          refine go_isub dX12_gentle_67 ?_
          refine go_istore dX12_gentle_68 (Nat.le_of_ble_eq_true rfl) ?_
          show gg p l e s m args below meth c G (d + 1) MX12_gentle Q 70 [some (.ref 82), some (.int a1), some (.int a2), some (.int a3), some (.int (h6.1 136 v6.toNatClampNeg)), some (.int ((h6.1 136 v6.toNatClampNeg) - v7))] [] h7
          refine go_iload_n (x := a3) dX12_gentle_70 rfl ?_
          refine go_if_ne 79 dX12_gentle_71 rfl (fun q => ?_) (fun q => ?_)
          · replace vc := vc.1 q
            refine go_iload (x := ((h6.1 136 v6.toNatClampNeg) - v7)) dX12_gentle_79 rfl ?_
            refine go_if_gt 88 dX12_gentle_81 rfl (fun q => ?_) (fun q => ?_)
            · replace vc := vc.1 q
              refine go_iload (x := ((h6.1 136 v6.toNatClampNeg) - v7)) dX12_gentle_88 rfl ?_
              refine go_aload_n (x := 82) dX12_gentle_90 rfl ?_
              refine go_getR (x := 126) dX12_gentle_91 f12_145 sh82 (fun _ _ => rfl) (rf82_53 hR) ?_
              refine go_iconst (v := 1) dX12_gentle_94 rfl ?_
              refine go_iald' (v := (h7.1 126 1)) dX12_gentle_95 sh126 (by unfold vp_in; decide) rfl ?_
              refine go_iadd dX12_gentle_96 ?_
              refine go_iconst (v := 1) dX12_gentle_97 rfl ?_
              refine go_isub dX12_gentle_98 ?_
              refine go_aload_n (x := 82) dX12_gentle_99 rfl ?_
              refine go_getR (x := 126) dX12_gentle_100 f12_145 sh82 (fun _ _ => rfl) (rf82_53 hR) ?_
              refine go_iconst (v := 1) dX12_gentle_103 rfl ?_
              refine go_iald' (v := (h7.1 126 1)) dX12_gentle_104 sh126 (by unfold vp_in; decide) rfl ?_
              refine go_idiv dX12_gentle_105 vc.1 ?_
              have vc := vc.2
              exact go_iret dX12_gentle_106 rfl vc rfl (Nat.le_refl _) (Nat.le_refl _)
            · replace vc := vc.2 q
              refine go_iconst (v := 0) dX12_gentle_84 rfl ?_
              refine go_goto 106 dX12_gentle_85 rfl ?_
              exact go_iret dX12_gentle_106 rfl vc rfl (Nat.le_refl _) (Nat.le_refl _)
          · replace vc := vc.2 q
            refine go_iload (x := (h6.1 136 v6.toNatClampNeg)) dX12_gentle_74 rfl ?_
            refine go_goto 106 dX12_gentle_76 rfl ?_
            exact go_iret dX12_gentle_106 rfl vc rfl (Nat.le_refl _) (Nat.le_refl _)
        · replace vc := vc.2 q
          refine go_iconst (v := (-1)) dX12_gentle_58 rfl ?_
          exact go_iret dX12_gentle_59 rfl vc rfl (Nat.le_refl _) (Nat.le_refl _)
      · replace vc := vc.2 q
        refine go_iconst (v := (-1)) dX12_gentle_26 rfl ?_
        exact go_iret dX12_gentle_27 rfl vc rfl (Nat.le_refl _) (Nat.le_refl _)
set_option maxRecDepth 20000 in
theorem wX12_leastBeside_0 {p : Program} {l : Launch} {e : Env} {s : State} {m : MethodId} {args : Array Value} {below : List Frame} {meth : Method} {c : Code} {G : gG} {d : Nat} {Q : Option Value → gH → Prop} {h : gH} {lk sp : Nat} {cd : Option Nat} {a1 : Int32} (hR : h.2.2 = gRF lk sp cd) (hlk : lk = 30 ∨ lk = 67) (hsp : sp = 30 ∨ sp = 67)  (vc : gg p l e s m args below meth c G (d + 1) MX12_leastBeside Q 4 [some (.ref 82), some (.int a1), some (.int (-1)), some (.int 0), none] [] h) : gg p l e s m args below meth c G (d + 1) MX12_leastBeside Q 0 [some (.ref 82), some (.int a1), none, none, none] [] h := by
  refine go_iconst (v := (-1)) dX12_leastBeside_0 rfl ?_
  refine go_istore_n dX12_leastBeside_1 (Nat.le_of_ble_eq_true rfl) ?_
  show gg p l e s m args below meth c G (d + 1) MX12_leastBeside Q 2 [some (.ref 82), some (.int a1), some (.int (-1)), none, none] [] h
  refine go_iconst (v := 0) dX12_leastBeside_2 rfl ?_
  refine go_istore_n dX12_leastBeside_3 (Nat.le_of_ble_eq_true rfl) ?_
  show gg p l e s m args below meth c G (d + 1) MX12_leastBeside Q 4 [some (.ref 82), some (.int a1), some (.int (-1)), some (.int 0), none] [] h
  exact vc
set_option maxRecDepth 20000 in
theorem wX12_leastBeside_4 {p : Program} {l : Launch} {e : Env} {s : State} {m : MethodId} {args : Array Value} {below : List Frame} {meth : Method} {c : Code} {G : gG} {d : Nat} {Q : Option Value → gH → Prop} {h : gH} {lk sp : Nat} {cd : Option Nat} {x1 : Int32} {x2 : Int32} {x3 : Int32} (hR : h.2.2 = gRF lk sp cd) (hlk : lk = 30 ∨ lk = 67) (hsp : sp = 30 ∨ sp = 67)  (vc : ((4 ≤ x3 → Q (some (.int x2)) h) ∧ (¬ 4 ≤ x3 → gC l G d MX12_beside [.ref 82, .int x1, .int x3] h (rI fun v1 h1 => h1.2.2 = (h).2.2 ∧ ((v1 = (-1) → gg p l e s m args below meth c G (d + 1) MX12_leastBeside Q 4 [some (.ref 82), some (.int x1), some (.int x2), some (.int (x3 + 1)), none] [] h1) ∧ (¬ v1 = (-1) → gC l G d MX12_isLand [.ref 82, .int v1] h1 (rI fun v2 h2 => h2.2.2 = (h1).2.2 ∧ ((v2 = 0 → ((x2 = (-1) → gg p l e s m args below meth c G (d + 1) MX12_leastBeside Q 4 [some (.ref 82), some (.int x1), some (.int v1), some (.int (x3 + 1)), none] [] h2) ∧ (¬ x2 = (-1) → (vp_in v1 48 ∧ (vp_in x2 48 ∧ (((h2.1 135 v1.toNatClampNeg) < (h2.1 135 x2.toNatClampNeg) → gg p l e s m args below meth c G (d + 1) MX12_leastBeside Q 4 [some (.ref 82), some (.int x1), some (.int v1), some (.int (x3 + 1)), none] [] h2) ∧ (¬ (h2.1 135 v1.toNatClampNeg) < (h2.1 135 x2.toNatClampNeg) → (vp_in v1 48 ∧ (vp_in x2 48 ∧ ((¬ (h2.1 135 v1.toNatClampNeg) = (h2.1 135 x2.toNatClampNeg) → gg p l e s m args below meth c G (d + 1) MX12_leastBeside Q 4 [some (.ref 82), some (.int x1), some (.int x2), some (.int (x3 + 1)), none] [] h2) ∧ ((h2.1 135 v1.toNatClampNeg) = (h2.1 135 x2.toNatClampNeg) → ((x2 ≤ v1 → gg p l e s m args below meth c G (d + 1) MX12_leastBeside Q 4 [some (.ref 82), some (.int x1), some (.int x2), some (.int (x3 + 1)), none] [] h2) ∧ (¬ x2 ≤ v1 → gg p l e s m args below meth c G (d + 1) MX12_leastBeside Q 4 [some (.ref 82), some (.int x1), some (.int v1), some (.int (x3 + 1)), none] [] h2))))))))))))) ∧ (¬ v2 = 0 → gg p l e s m args below meth c G (d + 1) MX12_leastBeside Q 4 [some (.ref 82), some (.int x1), some (.int x2), some (.int (x3 + 1)), none] [] h2))))))))) : gg p l e s m args below meth c G (d + 1) MX12_leastBeside Q 4 [some (.ref 82), some (.int x1), some (.int x2), some (.int x3), none] [] h := by
  refine go_iload_n (x := x3) dX12_leastBeside_4 rfl ?_
  refine go_iconst (v := 4) dX12_leastBeside_5 rfl ?_
  refine go_icmp_ge 87 dX12_leastBeside_6 rfl (fun q => ?_) (fun q => ?_)
  · replace vc := vc.1 q
    refine go_iload_n (x := x2) dX12_leastBeside_87 rfl ?_
    exact go_iret dX12_leastBeside_88 rfl vc rfl (Nat.le_refl _) (Nat.le_refl _)
  · replace vc := vc.2 q
    refine go_aload_n (x := 82) dX12_leastBeside_9 rfl ?_
    refine go_iload_n (x := x1) dX12_leastBeside_10 rfl ?_
    refine go_iload_n (x := x3) dX12_leastBeside_11 rfl ?_
    refine gvI2 MX12_beside dX12_leastBeside_12 lX12_587 kX12_beside vX12_beside sh82 (by decide) rfl (Nat.le_of_ble_eq_true rfl) vc ?_
    intro v1 h1 vc
    obtain ⟨hR1, vc⟩ := vc
    replace hR := hR1.trans hR
    refine go_istore dX12_leastBeside_15 (Nat.le_of_ble_eq_true rfl) ?_
    show gg p l e s m args below meth c G (d + 1) MX12_leastBeside Q 17 [some (.ref 82), some (.int x1), some (.int x2), some (.int x3), some (.int v1)] [] h1
    refine go_iload (x := v1) dX12_leastBeside_17 rfl ?_
    refine go_iconst (v := (-1)) dX12_leastBeside_19 rfl ?_
    refine go_icmp_eq 81 dX12_leastBeside_20 rfl (fun q => ?_) (fun q => ?_)
    · replace vc := vc.1 q
      refine go_iinc (x := x3) dX12_leastBeside_81 rfl ?_
      show gg p l e s m args below meth c G (d + 1) MX12_leastBeside Q 84 [some (.ref 82), some (.int x1), some (.int x2), some (.int (x3 + 1)), some (.int v1)] [] h1
      refine go_goto 4 dX12_leastBeside_84 rfl ?_
      refine go_weak (ls' := [some (.ref 82), some (.int x1), some (.int x2), some (.int (x3 + 1)), none]) ?_ vc
      exact (⟨rfl, ⟨rfl, ⟨rfl, ⟨rfl, trivial⟩⟩⟩⟩)
    · replace vc := vc.2 q
      refine go_aload_n (x := 82) dX12_leastBeside_23 rfl ?_
      refine go_iload (x := v1) dX12_leastBeside_24 rfl ?_
      refine gvI1 MX12_isLand dX12_leastBeside_26 lX12_492 kX12_isLand vX12_isLand sh82 (by decide) rfl (Nat.le_of_ble_eq_true rfl) vc ?_
      intro v2 h2 vc
      obtain ⟨hR2, vc⟩ := vc
      replace hR := hR2.trans hR
      refine go_if_eq 35 dX12_leastBeside_29 rfl (fun q => ?_) (fun q => ?_)
      · replace vc := vc.1 q
        refine go_iload_n (x := x2) dX12_leastBeside_35 rfl ?_
        refine go_iconst (v := (-1)) dX12_leastBeside_36 rfl ?_
        refine go_icmp_eq 78 dX12_leastBeside_37 rfl (fun q => ?_) (fun q => ?_)
        · replace vc := vc.1 q
          refine go_iload (x := v1) dX12_leastBeside_78 rfl ?_
          refine go_istore_n dX12_leastBeside_80 (Nat.le_of_ble_eq_true rfl) ?_
          show gg p l e s m args below meth c G (d + 1) MX12_leastBeside Q 81 [some (.ref 82), some (.int x1), some (.int v1), some (.int x3), some (.int v1)] [] h2
          refine go_iinc (x := x3) dX12_leastBeside_81 rfl ?_
          show gg p l e s m args below meth c G (d + 1) MX12_leastBeside Q 84 [some (.ref 82), some (.int x1), some (.int v1), some (.int (x3 + 1)), some (.int v1)] [] h2
          refine go_goto 4 dX12_leastBeside_84 rfl ?_
          refine go_weak (ls' := [some (.ref 82), some (.int x1), some (.int v1), some (.int (x3 + 1)), none]) ?_ vc
          exact (⟨rfl, ⟨rfl, ⟨rfl, ⟨rfl, trivial⟩⟩⟩⟩)
        · replace vc := vc.2 q
          refine go_aload_n (x := 82) dX12_leastBeside_40 rfl ?_
          refine go_getR (x := 135) dX12_leastBeside_41 f12_172 sh82 (fun _ _ => rfl) (rf82_70 hR) ?_
          refine go_iload (x := v1) dX12_leastBeside_44 rfl ?_
          refine go_iald' (v := (h2.1 135 v1.toNatClampNeg)) dX12_leastBeside_46 sh135 vc.1 rfl ?_
          have vc := vc.2
          refine go_aload_n (x := 82) dX12_leastBeside_47 rfl ?_
          refine go_getR (x := 135) dX12_leastBeside_48 f12_172 sh82 (fun _ _ => rfl) (rf82_70 hR) ?_
          refine go_iload_n (x := x2) dX12_leastBeside_51 rfl ?_
          refine go_iald' (v := (h2.1 135 x2.toNatClampNeg)) dX12_leastBeside_52 sh135 vc.1 rfl ?_
          have vc := vc.2
          refine go_icmp_lt 78 dX12_leastBeside_53 rfl (fun q => ?_) (fun q => ?_)
          · replace vc := vc.1 q
            refine go_iload (x := v1) dX12_leastBeside_78 rfl ?_
            refine go_istore_n dX12_leastBeside_80 (Nat.le_of_ble_eq_true rfl) ?_
            show gg p l e s m args below meth c G (d + 1) MX12_leastBeside Q 81 [some (.ref 82), some (.int x1), some (.int v1), some (.int x3), some (.int v1)] [] h2
            refine go_iinc (x := x3) dX12_leastBeside_81 rfl ?_
            show gg p l e s m args below meth c G (d + 1) MX12_leastBeside Q 84 [some (.ref 82), some (.int x1), some (.int v1), some (.int (x3 + 1)), some (.int v1)] [] h2
            refine go_goto 4 dX12_leastBeside_84 rfl ?_
            refine go_weak (ls' := [some (.ref 82), some (.int x1), some (.int v1), some (.int (x3 + 1)), none]) ?_ vc
            exact (⟨rfl, ⟨rfl, ⟨rfl, ⟨rfl, trivial⟩⟩⟩⟩)
          · replace vc := vc.2 q
            refine go_aload_n (x := 82) dX12_leastBeside_56 rfl ?_
            refine go_getR (x := 135) dX12_leastBeside_57 f12_172 sh82 (fun _ _ => rfl) (rf82_70 hR) ?_
            refine go_iload (x := v1) dX12_leastBeside_60 rfl ?_
            refine go_iald' (v := (h2.1 135 v1.toNatClampNeg)) dX12_leastBeside_62 sh135 vc.1 rfl ?_
            have vc := vc.2
            refine go_aload_n (x := 82) dX12_leastBeside_63 rfl ?_
            refine go_getR (x := 135) dX12_leastBeside_64 f12_172 sh82 (fun _ _ => rfl) (rf82_70 hR) ?_
            refine go_iload_n (x := x2) dX12_leastBeside_67 rfl ?_
            refine go_iald' (v := (h2.1 135 x2.toNatClampNeg)) dX12_leastBeside_68 sh135 vc.1 rfl ?_
            have vc := vc.2
            refine go_icmp_ne 81 dX12_leastBeside_69 rfl (fun q => ?_) (fun q => ?_)
            · replace vc := vc.1 q
              refine go_iinc (x := x3) dX12_leastBeside_81 rfl ?_
              show gg p l e s m args below meth c G (d + 1) MX12_leastBeside Q 84 [some (.ref 82), some (.int x1), some (.int x2), some (.int (x3 + 1)), some (.int v1)] [] h2
              refine go_goto 4 dX12_leastBeside_84 rfl ?_
              refine go_weak (ls' := [some (.ref 82), some (.int x1), some (.int x2), some (.int (x3 + 1)), none]) ?_ vc
              exact (⟨rfl, ⟨rfl, ⟨rfl, ⟨rfl, trivial⟩⟩⟩⟩)
            · replace vc := vc.2 q
              refine go_iload (x := v1) dX12_leastBeside_72 rfl ?_
              refine go_iload_n (x := x2) dX12_leastBeside_74 rfl ?_
              refine go_icmp_ge 81 dX12_leastBeside_75 rfl (fun q => ?_) (fun q => ?_)
              · replace vc := vc.1 q
                refine go_iinc (x := x3) dX12_leastBeside_81 rfl ?_
                show gg p l e s m args below meth c G (d + 1) MX12_leastBeside Q 84 [some (.ref 82), some (.int x1), some (.int x2), some (.int (x3 + 1)), some (.int v1)] [] h2
                refine go_goto 4 dX12_leastBeside_84 rfl ?_
                refine go_weak (ls' := [some (.ref 82), some (.int x1), some (.int x2), some (.int (x3 + 1)), none]) ?_ vc
                exact (⟨rfl, ⟨rfl, ⟨rfl, ⟨rfl, trivial⟩⟩⟩⟩)
              · replace vc := vc.2 q
                refine go_iload (x := v1) dX12_leastBeside_78 rfl ?_
                refine go_istore_n dX12_leastBeside_80 (Nat.le_of_ble_eq_true rfl) ?_
                show gg p l e s m args below meth c G (d + 1) MX12_leastBeside Q 81 [some (.ref 82), some (.int x1), some (.int v1), some (.int x3), some (.int v1)] [] h2
                refine go_iinc (x := x3) dX12_leastBeside_81 rfl ?_
                show gg p l e s m args below meth c G (d + 1) MX12_leastBeside Q 84 [some (.ref 82), some (.int x1), some (.int v1), some (.int (x3 + 1)), some (.int v1)] [] h2
                refine go_goto 4 dX12_leastBeside_84 rfl ?_
                refine go_weak (ls' := [some (.ref 82), some (.int x1), some (.int v1), some (.int (x3 + 1)), none]) ?_ vc
                exact (⟨rfl, ⟨rfl, ⟨rfl, ⟨rfl, trivial⟩⟩⟩⟩)
      · replace vc := vc.2 q
        refine go_goto 81 dX12_leastBeside_32 rfl ?_
        refine go_iinc (x := x3) dX12_leastBeside_81 rfl ?_
        show gg p l e s m args below meth c G (d + 1) MX12_leastBeside Q 84 [some (.ref 82), some (.int x1), some (.int x2), some (.int (x3 + 1)), some (.int v1)] [] h2
        refine go_goto 4 dX12_leastBeside_84 rfl ?_
        refine go_weak (ls' := [some (.ref 82), some (.int x1), some (.int x2), some (.int (x3 + 1)), none]) ?_ vc
        exact (⟨rfl, ⟨rfl, ⟨rfl, ⟨rfl, trivial⟩⟩⟩⟩)
