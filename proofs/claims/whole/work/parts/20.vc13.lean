set_option maxRecDepth 20000 in
theorem wX12_qSums_0 {p : Program} {l : Launch} {e : Env} {s : State} {m : MethodId} {args : Array Value} {below : List Frame} {meth : Method} {c : Code} {G : gG} {d : Nat} {Q : Option Value → gH → Prop} {h : gH} {lk sp : Nat} {cd : Option Nat}  (hR : h.2.2 = gRF lk sp cd) (hlk : lk = 30 ∨ lk = 67) (hsp : sp = 30 ∨ sp = 67)  (vc : gg p l e s m args below meth c G (d + 1) MX12_qSums Q 15 [some (.ref 82), some (.int (h.1 82 110)), some (.int 1)] [] (sI h 82 110 (h.1 82 108))) : gg p l e s m args below meth c G (d + 1) MX12_qSums Q 0 [some (.ref 82), none, none] [] h := by
  refine go_aload_n (x := 82) dX12_qSums_0 rfl ?_
  refine go_getI' (v := (h.1 82 110)) dX12_qSums_1 f12_692 sh82 (fun _ _ => rfl) rfl ?_
  refine go_istore_n dX12_qSums_4 (Nat.le_of_ble_eq_true rfl) ?_
  show gg p l e s m args below meth c G (d + 1) MX12_qSums Q 5 [some (.ref 82), some (.int (h.1 82 110)), none] [] h
  refine go_aload_n (x := 82) dX12_qSums_5 rfl ?_
  refine go_aload_n (x := 82) dX12_qSums_6 rfl ?_
  refine go_getI' (v := (h.1 82 108)) dX12_qSums_7 f12_686 sh82 (fun _ _ => rfl) rfl ?_
  refine go_putI dX12_qSums_10 f12_692 sh82 rfl rfl ?_
  refine go_iconst (v := 1) dX12_qSums_13 rfl ?_
  refine go_istore_n dX12_qSums_14 (Nat.le_of_ble_eq_true rfl) ?_
  show gg p l e s m args below meth c G (d + 1) MX12_qSums Q 15 [some (.ref 82), some (.int (h.1 82 110)), some (.int 1)] [] (sI h 82 110 (h.1 82 108))
  exact vc
set_option maxRecDepth 20000 in
theorem wX12_qSums_15 {p : Program} {l : Launch} {e : Env} {s : State} {m : MethodId} {args : Array Value} {below : List Frame} {meth : Method} {c : Code} {G : gG} {d : Nat} {Q : Option Value → gH → Prop} {h : gH} {lk sp : Nat} {cd : Option Nat} {x1 : Int32} {x2 : Int32} (hR : h.2.2 = gRF lk sp cd) (hlk : lk = 30 ∨ lk = 67) (hsp : sp = 30 ∨ sp = 67)  (vc : ((x2 = 0 → gg p l e s m args below meth c G (d + 1) MX12_qSums Q 53 [some (.ref 82), some (.int x1), some (.int x2)] [] h) ∧ (¬ x2 = 0 → ((¬ (h.1 82 5) = 0 → gg p l e s m args below meth c G (d + 1) MX12_qSums Q 53 [some (.ref 82), some (.int x1), some (.int x2)] [] h) ∧ ((h.1 82 5) = 0 → gC l G d MX12_qPartTold [.ref 82] h (rV fun h1 => h1.2.2 = (h).2.2 ∧ ((¬ (h1.1 82 5) = 0 → gg p l e s m args below meth c G (d + 1) MX12_qSums Q 15 [some (.ref 82), some (.int x1), some (.int 0)] [] h1) ∧ ((h1.1 82 5) = 0 → gC l G d MX12_qGoesOn [.ref 82] h1 (rI fun v2 h2 => h2.2.2 = (h1).2.2 ∧ ((v2 = 0 → gg p l e s m args below meth c G (d + 1) MX12_qSums Q 15 [some (.ref 82), some (.int x1), some (.int 0)] [] h2) ∧ (¬ v2 = 0 → gg p l e s m args below meth c G (d + 1) MX12_qSums Q 15 [some (.ref 82), some (.int x1), some (.int 1)] [] h2))))))))))) : gg p l e s m args below meth c G (d + 1) MX12_qSums Q 15 [some (.ref 82), some (.int x1), some (.int x2)] [] h := by
  refine go_iload_n (x := x2) dX12_qSums_15 rfl ?_
  refine go_if_eq 53 dX12_qSums_16 rfl (fun q => ?_) (fun q => ?_)
  · replace vc := vc.1 q
    exact vc
  · replace vc := vc.2 q
    refine go_aload_n (x := 82) dX12_qSums_19 rfl ?_
    refine go_getI' (v := (h.1 82 5)) dX12_qSums_20 f12_278 sh82 (fun _ _ => rfl) rfl ?_
    refine go_if_ne 53 dX12_qSums_23 rfl (fun q => ?_) (fun q => ?_)
    · replace vc := vc.1 q
      exact vc
    · replace vc := vc.2 q
      refine go_aload_n (x := 82) dX12_qSums_26 rfl ?_
      refine gvV0 MX12_qPartTold dX12_qSums_27 lX12_725 kX12_qPartTold vX12_qPartTold sh82 (by decide) rfl (Nat.le_of_ble_eq_true rfl) vc ?_
      intro h1 vc
      obtain ⟨hR1, vc⟩ := vc
      replace hR := hR1.trans hR
      refine go_aload_n (x := 82) dX12_qSums_30 rfl ?_
      refine go_getI' (v := (h1.1 82 5)) dX12_qSums_31 f12_278 sh82 (fun _ _ => rfl) rfl ?_
      refine go_if_ne 48 dX12_qSums_34 rfl (fun q => ?_) (fun q => ?_)
      · replace vc := vc.1 q
        refine go_iconst (v := 0) dX12_qSums_48 rfl ?_
        refine go_istore_n dX12_qSums_49 (Nat.le_of_ble_eq_true rfl) ?_
        show gg p l e s m args below meth c G (d + 1) MX12_qSums Q 50 [some (.ref 82), some (.int x1), some (.int 0)] [] h1
        refine go_goto 15 dX12_qSums_50 rfl ?_
        exact vc
      · replace vc := vc.2 q
        refine go_aload_n (x := 82) dX12_qSums_37 rfl ?_
        refine gvI0 MX12_qGoesOn dX12_qSums_38 lX12_728 kX12_qGoesOn vX12_qGoesOn sh82 (by decide) rfl (Nat.le_of_ble_eq_true rfl) vc ?_
        intro v2 h2 vc
        obtain ⟨hR2, vc⟩ := vc
        replace hR := hR2.trans hR
        refine go_if_eq 48 dX12_qSums_41 rfl (fun q => ?_) (fun q => ?_)
        · replace vc := vc.1 q
          refine go_iconst (v := 0) dX12_qSums_48 rfl ?_
          refine go_istore_n dX12_qSums_49 (Nat.le_of_ble_eq_true rfl) ?_
          show gg p l e s m args below meth c G (d + 1) MX12_qSums Q 50 [some (.ref 82), some (.int x1), some (.int 0)] [] h2
          refine go_goto 15 dX12_qSums_50 rfl ?_
          exact vc
        · replace vc := vc.2 q
          refine go_iconst (v := 1) dX12_qSums_44 rfl ?_
          refine go_goto 49 dX12_qSums_45 rfl ?_
          refine go_istore_n dX12_qSums_49 (Nat.le_of_ble_eq_true rfl) ?_
          show gg p l e s m args below meth c G (d + 1) MX12_qSums Q 50 [some (.ref 82), some (.int x1), some (.int 1)] [] h2
          refine go_goto 15 dX12_qSums_50 rfl ?_
          exact vc
set_option maxRecDepth 20000 in
theorem wX12_qSums_53 {p : Program} {l : Launch} {e : Env} {s : State} {m : MethodId} {args : Array Value} {below : List Frame} {meth : Method} {c : Code} {G : gG} {d : Nat} {Q : Option Value → gH → Prop} {h : gH} {lk sp : Nat} {cd : Option Nat} {x1 : Int32} {x2 : Int32} (hR : h.2.2 = gRF lk sp cd) (hlk : lk = 30 ∨ lk = 67) (hsp : sp = 30 ∨ sp = 67)  (vc : ((¬ (h.1 82 5) = 0 → Q none (sI h 82 110 x1)) ∧ ((h.1 82 5) = 0 → (((h.1 82 108) ≤ (h.1 82 110) → Q none (sI h 82 110 x1)) ∧ (¬ (h.1 82 108) ≤ (h.1 82 110) → gC l G d MX12_qDrops [.ref 82] h (rV fun h1 => h1.2.2 = (h).2.2 ∧ gg p l e s m args below meth c G (d + 1) MX12_qSums Q 53 [some (.ref 82), some (.int x1), some (.int x2)] [] h1)))))) : gg p l e s m args below meth c G (d + 1) MX12_qSums Q 53 [some (.ref 82), some (.int x1), some (.int x2)] [] h := by
  refine go_aload_n (x := 82) dX12_qSums_53 rfl ?_
  refine go_getI' (v := (h.1 82 5)) dX12_qSums_54 f12_278 sh82 (fun _ _ => rfl) rfl ?_
  refine go_if_ne 78 dX12_qSums_57 rfl (fun q => ?_) (fun q => ?_)
  · replace vc := vc.1 q
    refine go_aload_n (x := 82) dX12_qSums_78 rfl ?_
    refine go_iload_n (x := x1) dX12_qSums_79 rfl ?_
    refine go_putI dX12_qSums_80 f12_692 sh82 rfl rfl ?_
    exact go_vret dX12_qSums_83 rfl vc rfl (Nat.le_refl _) (Nat.le_refl _)
  · replace vc := vc.2 q
    refine go_aload_n (x := 82) dX12_qSums_60 rfl ?_
    refine go_getI' (v := (h.1 82 108)) dX12_qSums_61 f12_686 sh82 (fun _ _ => rfl) rfl ?_
    refine go_aload_n (x := 82) dX12_qSums_64 rfl ?_
    refine go_getI' (v := (h.1 82 110)) dX12_qSums_65 f12_692 sh82 (fun _ _ => rfl) rfl ?_
    refine go_icmp_le 78 dX12_qSums_68 rfl (fun q => ?_) (fun q => ?_)
    · replace vc := vc.1 q
      refine go_aload_n (x := 82) dX12_qSums_78 rfl ?_
      refine go_iload_n (x := x1) dX12_qSums_79 rfl ?_
      refine go_putI dX12_qSums_80 f12_692 sh82 rfl rfl ?_
      exact go_vret dX12_qSums_83 rfl vc rfl (Nat.le_refl _) (Nat.le_refl _)
    · replace vc := vc.2 q
      refine go_aload_n (x := 82) dX12_qSums_71 rfl ?_
      refine gvV0 MX12_qDrops dX12_qSums_72 lX12_698 kX12_qDrops vX12_qDrops sh82 (by decide) rfl (Nat.le_of_ble_eq_true rfl) vc ?_
      intro h1 vc
      obtain ⟨hR1, vc⟩ := vc
      replace hR := hR1.trans hR
      refine go_goto 53 dX12_qSums_75 rfl ?_
      exact vc
set_option maxRecDepth 20000 in
theorem wX12_qFact_0 {p : Program} {l : Launch} {e : Env} {s : State} {m : MethodId} {args : Array Value} {below : List Frame} {meth : Method} {c : Code} {G : gG} {d : Nat} {Q : Option Value → gH → Prop} {h : gH} {lk sp : Nat} {cd : Option Nat}  (hR : h.2.2 = gRF lk sp cd) (hlk : lk = 30 ∨ lk = 67) (hsp : sp = 30 ∨ sp = 67)  (vc : gC l G d MX12_takes [.ref 82, .ref 152] h (rI fun v1 h1 => h1.2.2 = (h).2.2 ∧ ((v1 = 0 → gC l G d MX12_qSums [.ref 82] h1 (rV fun h2 => h2.2.2 = (h1).2.2 ∧ (((h2.1 82 5) = 0 → gC l G d MX12_look [.ref 82] h2 (rI fun v3 h3 => h3.2.2 = (h2).2.2 ∧ ((v3 = 60 → gC l G d MX12_qSums [.ref 82] (sI h3 82 2 ((h3.1 82 2) + 1)) (rV fun h4 => h4.2.2 = ((sI h3 82 2 ((h3.1 82 2) + 1))).2.2 ∧ ((¬ v3 = 60 → ((¬ v3 = 62 → gC l G d MX12_qCode [.ref 82, .int 9] h4 (rV fun h5 => h5.2.2 = (h4).2.2 ∧ Q none h5)) ∧ (v3 = 62 → gC l G d MX12_qCode [.ref 82, .int 8] h4 (rV fun h6 => h6.2.2 = (h4).2.2 ∧ Q none h6)))) ∧ (v3 = 60 → gC l G d MX12_qCode [.ref 82, .int 7] h4 (rV fun h7 => h7.2.2 = (h4).2.2 ∧ Q none h7))))) ∧ (¬ v3 = 60 → ((v3 = 62 → gC l G d MX12_qSums [.ref 82] (sI h3 82 2 ((h3.1 82 2) + 1)) (rV fun h8 => h8.2.2 = ((sI h3 82 2 ((h3.1 82 2) + 1))).2.2 ∧ ((¬ v3 = 60 → ((¬ v3 = 62 → gC l G d MX12_qCode [.ref 82, .int 9] h8 (rV fun h9 => h9.2.2 = (h8).2.2 ∧ Q none h9)) ∧ (v3 = 62 → gC l G d MX12_qCode [.ref 82, .int 8] h8 (rV fun h10 => h10.2.2 = (h8).2.2 ∧ Q none h10)))) ∧ (v3 = 60 → gC l G d MX12_qCode [.ref 82, .int 7] h8 (rV fun h11 => h11.2.2 = (h8).2.2 ∧ Q none h11))))) ∧ (¬ v3 = 62 → ((v3 = 61 → gC l G d MX12_qSums [.ref 82] (sI h3 82 2 ((h3.1 82 2) + 1)) (rV fun h12 => h12.2.2 = ((sI h3 82 2 ((h3.1 82 2) + 1))).2.2 ∧ ((¬ v3 = 60 → ((¬ v3 = 62 → gC l G d MX12_qCode [.ref 82, .int 9] h12 (rV fun h13 => h13.2.2 = (h12).2.2 ∧ Q none h13)) ∧ (v3 = 62 → gC l G d MX12_qCode [.ref 82, .int 8] h12 (rV fun h14 => h14.2.2 = (h12).2.2 ∧ Q none h14)))) ∧ (v3 = 60 → gC l G d MX12_qCode [.ref 82, .int 7] h12 (rV fun h15 => h15.2.2 = (h12).2.2 ∧ Q none h15))))) ∧ (¬ v3 = 61 → gC l G d MX12_fail [.ref 82, .int 1, .int (h3.1 82 2)] h3 (rV fun h16 => h16.2.2 = (h3).2.2 ∧ Q none h16))))))))) ∧ (¬ (h2.1 82 5) = 0 → Q none h2)))) ∧ (¬ v1 = 0 → gC l G d MX12_qCode [.ref 82, .int 13] h1 (rV fun h17 => h17.2.2 = (h1).2.2 ∧ Q none h17))))) : gg p l e s m args below meth c G (d + 1) MX12_qFact Q 0 [some (.ref 82), none] [] h := by
  refine go_aload_n (x := 82) dX12_qFact_0 rfl ?_
  refine go_aload_n (x := 82) dX12_qFact_1 rfl ?_
  refine go_getR (x := 152) dX12_qFact_2 f12_227 sh82 (fun _ _ => rfl) (rf82_93 hR) ?_
  refine gvI1 MX12_takes dX12_qFact_5 lX12_305 kX12_takes vX12_takes sh82 (by decide) rfl (Nat.le_of_ble_eq_true rfl) vc ?_
  intro v1 h1 vc
  obtain ⟨hR1, vc⟩ := vc
  replace hR := hR1.trans hR
  refine go_if_eq 18 dX12_qFact_8 rfl (fun q => ?_) (fun q => ?_)
  · replace vc := vc.1 q
    refine go_aload_n (x := 82) dX12_qFact_18 rfl ?_
    refine gvV0 MX12_qSums dX12_qFact_19 lX12_731 kX12_qSums vX12_qSums sh82 (by decide) rfl (Nat.le_of_ble_eq_true rfl) vc ?_
    intro h2 vc
    obtain ⟨hR2, vc⟩ := vc
    replace hR := hR2.trans hR
    refine go_aload_n (x := 82) dX12_qFact_22 rfl ?_
    refine go_getI' (v := (h2.1 82 5)) dX12_qFact_23 f12_278 sh82 (fun _ _ => rfl) rfl ?_
    refine go_if_eq 30 dX12_qFact_26 rfl (fun q => ?_) (fun q => ?_)
    · replace vc := vc.1 q
      refine go_aload_n (x := 82) dX12_qFact_30 rfl ?_
      refine gvI0 MX12_look dX12_qFact_31 lX12_290 kX12_look vX12_look sh82 (by decide) rfl (Nat.le_of_ble_eq_true rfl) vc ?_
      intro v3 h3 vc
      obtain ⟨hR3, vc⟩ := vc
      replace hR := hR3.trans hR
      refine go_istore_n dX12_qFact_34 (Nat.le_of_ble_eq_true rfl) ?_
      show gg p l e s m args below meth c G (d + 1) MX12_qFact Q 35 [some (.ref 82), some (.int v3)] [] h3
      refine go_iload_n (x := v3) dX12_qFact_35 rfl ?_
      refine go_bipush (v := 60) dX12_qFact_36 rfl ?_
      refine go_icmp_eq 63 dX12_qFact_38 rfl (fun q => ?_) (fun q => ?_)
      · replace vc := vc.1 q
        refine go_aload_n (x := 82) dX12_qFact_63 rfl ?_
        refine go_dup dX12_qFact_64 rfl ?_
        refine go_getI' (v := (h3.1 82 2)) dX12_qFact_65 f12_284 sh82 (fun _ _ => rfl) rfl ?_
        refine go_iconst (v := 1) dX12_qFact_68 rfl ?_
        refine go_iadd dX12_qFact_69 ?_
        refine go_putI dX12_qFact_70 f12_284 sh82 rfl rfl ?_
        refine go_aload_n (x := 82) dX12_qFact_73 rfl ?_
        refine gvV0 MX12_qSums dX12_qFact_74 lX12_731 kX12_qSums vX12_qSums sh82 (by decide) rfl (Nat.le_of_ble_eq_true rfl) vc ?_
        intro h4 vc
        obtain ⟨hR4, vc⟩ := vc
        replace hR := hR4.trans hR
        refine go_aload_n (x := 82) dX12_qFact_77 rfl ?_
        refine go_iload_n (x := v3) dX12_qFact_78 rfl ?_
        refine go_bipush (v := 60) dX12_qFact_79 rfl ?_
        refine go_icmp_ne 89 dX12_qFact_81 rfl (fun q => ?_) (fun q => ?_)
        · replace vc := vc.1 q
          refine go_iload_n (x := v3) dX12_qFact_89 rfl ?_
          refine go_bipush (v := 62) dX12_qFact_90 rfl ?_
          refine go_icmp_ne 100 dX12_qFact_92 rfl (fun q => ?_) (fun q => ?_)
          · replace vc := vc.1 q
            refine go_bipush (v := 9) dX12_qFact_100 rfl ?_
            refine gvV1 MX12_qCode dX12_qFact_102 lX12_689 kX12_qCode vX12_qCode sh82 (by decide) rfl (Nat.le_of_ble_eq_true rfl) vc ?_
            intro h5 vc
            obtain ⟨hR5, vc⟩ := vc
            replace hR := hR5.trans hR
            exact go_vret dX12_qFact_105 rfl vc rfl (Nat.le_refl _) (Nat.le_refl _)
          · replace vc := vc.2 q
            refine go_bipush (v := 8) dX12_qFact_95 rfl ?_
            refine go_goto 102 dX12_qFact_97 rfl ?_
            refine gvV1 MX12_qCode dX12_qFact_102 lX12_689 kX12_qCode vX12_qCode sh82 (by decide) rfl (Nat.le_of_ble_eq_true rfl) vc ?_
            intro h6 vc
            obtain ⟨hR6, vc⟩ := vc
            replace hR := hR6.trans hR
            exact go_vret dX12_qFact_105 rfl vc rfl (Nat.le_refl _) (Nat.le_refl _)
        · replace vc := vc.2 q
          refine go_bipush (v := 7) dX12_qFact_84 rfl ?_
          refine go_goto 102 dX12_qFact_86 rfl ?_
          refine gvV1 MX12_qCode dX12_qFact_102 lX12_689 kX12_qCode vX12_qCode sh82 (by decide) rfl (Nat.le_of_ble_eq_true rfl) vc ?_
          intro h7 vc
          obtain ⟨hR7, vc⟩ := vc
          replace hR := hR7.trans hR
          exact go_vret dX12_qFact_105 rfl vc rfl (Nat.le_refl _) (Nat.le_refl _)
      · replace vc := vc.2 q
        refine go_iload_n (x := v3) dX12_qFact_41 rfl ?_
        refine go_bipush (v := 62) dX12_qFact_42 rfl ?_
        refine go_icmp_eq 63 dX12_qFact_44 rfl (fun q => ?_) (fun q => ?_)
        · replace vc := vc.1 q
          refine go_aload_n (x := 82) dX12_qFact_63 rfl ?_
          refine go_dup dX12_qFact_64 rfl ?_
          refine go_getI' (v := (h3.1 82 2)) dX12_qFact_65 f12_284 sh82 (fun _ _ => rfl) rfl ?_
          refine go_iconst (v := 1) dX12_qFact_68 rfl ?_
          refine go_iadd dX12_qFact_69 ?_
          refine go_putI dX12_qFact_70 f12_284 sh82 rfl rfl ?_
          refine go_aload_n (x := 82) dX12_qFact_73 rfl ?_
          refine gvV0 MX12_qSums dX12_qFact_74 lX12_731 kX12_qSums vX12_qSums sh82 (by decide) rfl (Nat.le_of_ble_eq_true rfl) vc ?_
          intro h8 vc
          obtain ⟨hR8, vc⟩ := vc
          replace hR := hR8.trans hR
          refine go_aload_n (x := 82) dX12_qFact_77 rfl ?_
          refine go_iload_n (x := v3) dX12_qFact_78 rfl ?_
          refine go_bipush (v := 60) dX12_qFact_79 rfl ?_
          refine go_icmp_ne 89 dX12_qFact_81 rfl (fun q => ?_) (fun q => ?_)
          · replace vc := vc.1 q
            refine go_iload_n (x := v3) dX12_qFact_89 rfl ?_
            refine go_bipush (v := 62) dX12_qFact_90 rfl ?_
            refine go_icmp_ne 100 dX12_qFact_92 rfl (fun q => ?_) (fun q => ?_)
            · replace vc := vc.1 q
              refine go_bipush (v := 9) dX12_qFact_100 rfl ?_
              refine gvV1 MX12_qCode dX12_qFact_102 lX12_689 kX12_qCode vX12_qCode sh82 (by decide) rfl (Nat.le_of_ble_eq_true rfl) vc ?_
              intro h9 vc
              obtain ⟨hR9, vc⟩ := vc
              replace hR := hR9.trans hR
              exact go_vret dX12_qFact_105 rfl vc rfl (Nat.le_refl _) (Nat.le_refl _)
            · replace vc := vc.2 q
              refine go_bipush (v := 8) dX12_qFact_95 rfl ?_
              refine go_goto 102 dX12_qFact_97 rfl ?_
              refine gvV1 MX12_qCode dX12_qFact_102 lX12_689 kX12_qCode vX12_qCode sh82 (by decide) rfl (Nat.le_of_ble_eq_true rfl) vc ?_
              intro h10 vc
              obtain ⟨hR10, vc⟩ := vc
              replace hR := hR10.trans hR
              exact go_vret dX12_qFact_105 rfl vc rfl (Nat.le_refl _) (Nat.le_refl _)
          · replace vc := vc.2 q
            refine go_bipush (v := 7) dX12_qFact_84 rfl ?_
            refine go_goto 102 dX12_qFact_86 rfl ?_
            refine gvV1 MX12_qCode dX12_qFact_102 lX12_689 kX12_qCode vX12_qCode sh82 (by decide) rfl (Nat.le_of_ble_eq_true rfl) vc ?_
            intro h11 vc
            obtain ⟨hR11, vc⟩ := vc
            replace hR := hR11.trans hR
            exact go_vret dX12_qFact_105 rfl vc rfl (Nat.le_refl _) (Nat.le_refl _)
        · replace vc := vc.2 q
          refine go_iload_n (x := v3) dX12_qFact_47 rfl ?_
          refine go_bipush (v := 61) dX12_qFact_48 rfl ?_
          refine go_icmp_eq 63 dX12_qFact_50 rfl (fun q => ?_) (fun q => ?_)
          · replace vc := vc.1 q
            refine go_aload_n (x := 82) dX12_qFact_63 rfl ?_
            refine go_dup dX12_qFact_64 rfl ?_
            refine go_getI' (v := (h3.1 82 2)) dX12_qFact_65 f12_284 sh82 (fun _ _ => rfl) rfl ?_
            refine go_iconst (v := 1) dX12_qFact_68 rfl ?_
            refine go_iadd dX12_qFact_69 ?_
            refine go_putI dX12_qFact_70 f12_284 sh82 rfl rfl ?_
            refine go_aload_n (x := 82) dX12_qFact_73 rfl ?_
            refine gvV0 MX12_qSums dX12_qFact_74 lX12_731 kX12_qSums vX12_qSums sh82 (by decide) rfl (Nat.le_of_ble_eq_true rfl) vc ?_
            intro h12 vc
            obtain ⟨hR12, vc⟩ := vc
            replace hR := hR12.trans hR
            refine go_aload_n (x := 82) dX12_qFact_77 rfl ?_
            refine go_iload_n (x := v3) dX12_qFact_78 rfl ?_
            refine go_bipush (v := 60) dX12_qFact_79 rfl ?_
            refine go_icmp_ne 89 dX12_qFact_81 rfl (fun q => ?_) (fun q => ?_)
            · replace vc := vc.1 q
              refine go_iload_n (x := v3) dX12_qFact_89 rfl ?_
              refine go_bipush (v := 62) dX12_qFact_90 rfl ?_
              refine go_icmp_ne 100 dX12_qFact_92 rfl (fun q => ?_) (fun q => ?_)
              · replace vc := vc.1 q
                refine go_bipush (v := 9) dX12_qFact_100 rfl ?_
                refine gvV1 MX12_qCode dX12_qFact_102 lX12_689 kX12_qCode vX12_qCode sh82 (by decide) rfl (Nat.le_of_ble_eq_true rfl) vc ?_
                intro h13 vc
                obtain ⟨hR13, vc⟩ := vc
                replace hR := hR13.trans hR
                exact go_vret dX12_qFact_105 rfl vc rfl (Nat.le_refl _) (Nat.le_refl _)
              · replace vc := vc.2 q
                refine go_bipush (v := 8) dX12_qFact_95 rfl ?_
                refine go_goto 102 dX12_qFact_97 rfl ?_
                refine gvV1 MX12_qCode dX12_qFact_102 lX12_689 kX12_qCode vX12_qCode sh82 (by decide) rfl (Nat.le_of_ble_eq_true rfl) vc ?_
                intro h14 vc
                obtain ⟨hR14, vc⟩ := vc
                replace hR := hR14.trans hR
                exact go_vret dX12_qFact_105 rfl vc rfl (Nat.le_refl _) (Nat.le_refl _)
            · replace vc := vc.2 q
              refine go_bipush (v := 7) dX12_qFact_84 rfl ?_
              refine go_goto 102 dX12_qFact_86 rfl ?_
              refine gvV1 MX12_qCode dX12_qFact_102 lX12_689 kX12_qCode vX12_qCode sh82 (by decide) rfl (Nat.le_of_ble_eq_true rfl) vc ?_
              intro h15 vc
              obtain ⟨hR15, vc⟩ := vc
              replace hR := hR15.trans hR
              exact go_vret dX12_qFact_105 rfl vc rfl (Nat.le_refl _) (Nat.le_refl _)
          · replace vc := vc.2 q
            refine go_aload_n (x := 82) dX12_qFact_53 rfl ?_
            refine go_iconst (v := 1) dX12_qFact_54 rfl ?_
            refine go_aload_n (x := 82) dX12_qFact_55 rfl ?_
            refine go_getI' (v := (h3.1 82 2)) dX12_qFact_56 f12_284 sh82 (fun _ _ => rfl) rfl ?_
            refine gvV2 MX12_fail dX12_qFact_59 lX12_308 kX12_fail vX12_fail sh82 (by decide) rfl (Nat.le_of_ble_eq_true rfl) vc ?_
            intro h16 vc
            obtain ⟨hR16, vc⟩ := vc
            replace hR := hR16.trans hR
            exact go_vret dX12_qFact_62 rfl vc rfl (Nat.le_refl _) (Nat.le_refl _)
    · replace vc := vc.2 q
      exact go_vret dX12_qFact_29 rfl vc rfl (Nat.le_refl _) (Nat.le_refl _)
  · replace vc := vc.2 q
    refine go_aload_n (x := 82) dX12_qFact_11 rfl ?_
    refine go_bipush (v := 13) dX12_qFact_12 rfl ?_
    refine gvV1 MX12_qCode dX12_qFact_14 lX12_689 kX12_qCode vX12_qCode sh82 (by decide) rfl (Nat.le_of_ble_eq_true rfl) vc ?_
    intro h17 vc
    obtain ⟨hR17, vc⟩ := vc
    replace hR := hR17.trans hR
    exact go_vret dX12_qFact_17 rfl vc rfl (Nat.le_refl _) (Nat.le_refl _)
set_option maxRecDepth 20000 in
theorem wX12_qHasSquare_0 {p : Program} {l : Launch} {e : Env} {s : State} {m : MethodId} {args : Array Value} {below : List Frame} {meth : Method} {c : Code} {G : gG} {d : Nat} {Q : Option Value → gH → Prop} {h : gH} {lk sp : Nat} {cd : Option Nat}  (hR : h.2.2 = gRF lk sp cd) (hlk : lk = 30 ∨ lk = 67) (hsp : sp = 30 ∨ sp = 67)  (vc : gg p l e s m args below meth c G d MX12_qHasSquare Q 2 [some (.ref 82), some (.int 0)] [] h) : gg p l e s m args below meth c G d MX12_qHasSquare Q 0 [some (.ref 82), none] [] h := by
  refine go_iconst (v := 0) dX12_qHasSquare_0 rfl ?_
  refine go_istore_n dX12_qHasSquare_1 (Nat.le_of_ble_eq_true rfl) ?_
  show gg p l e s m args below meth c G d MX12_qHasSquare Q 2 [some (.ref 82), some (.int 0)] [] h
  exact vc
set_option maxRecDepth 20000 in
theorem wX12_qHasSquare_2 {p : Program} {l : Launch} {e : Env} {s : State} {m : MethodId} {args : Array Value} {below : List Frame} {meth : Method} {c : Code} {G : gG} {d : Nat} {Q : Option Value → gH → Prop} {h : gH} {lk sp : Nat} {cd : Option Nat} {x1 : Int32} (hR : h.2.2 = gRF lk sp cd) (hlk : lk = 30 ∨ lk = 67) (hsp : sp = 30 ∨ sp = 67)  (vc : (((h.1 82 108) ≤ x1 → Q (some (.int 0)) h) ∧ (¬ (h.1 82 108) ≤ x1 → (vp_in x1 1700 ∧ ((¬ (h.1 165 x1.toNatClampNeg) = 25 → gg p l e s m args below meth c G d MX12_qHasSquare Q 2 [some (.ref 82), some (.int (x1 + 1))] [] h) ∧ ((h.1 165 x1.toNatClampNeg) = 25 → Q (some (.int 1)) h)))))) : gg p l e s m args below meth c G d MX12_qHasSquare Q 2 [some (.ref 82), some (.int x1)] [] h := by
  refine go_iload_n (x := x1) dX12_qHasSquare_2 rfl ?_
  refine go_aload_n (x := 82) dX12_qHasSquare_3 rfl ?_
  refine go_getI' (v := (h.1 82 108)) dX12_qHasSquare_4 f12_686 sh82 (fun _ _ => rfl) rfl ?_
  refine go_icmp_ge 29 dX12_qHasSquare_7 rfl (fun q => ?_) (fun q => ?_)
  · replace vc := vc.1 q
    refine go_iconst (v := 0) dX12_qHasSquare_29 rfl ?_
    exact go_zret dX12_qHasSquare_30 rfl (by decide) vc rfl (Nat.le_refl _) (Nat.le_refl _)
  · replace vc := vc.2 q
    refine go_aload_n (x := 82) dX12_qHasSquare_10 rfl ?_
    refine go_getR (x := 165) dX12_qHasSquare_11 f12_266 sh82 (fun _ _ => rfl) (rf82_107 hR) ?_
    refine go_iload_n (x := x1) dX12_qHasSquare_14 rfl ?_
    refine go_iald' (v := (h.1 165 x1.toNatClampNeg)) dX12_qHasSquare_15 sh165 vc.1 rfl ?_
    have vc := vc.2
    refine go_bipush (v := 25) dX12_qHasSquare_16 rfl ?_
    refine go_icmp_ne 23 dX12_qHasSquare_18 rfl (fun q => ?_) (fun q => ?_)
    · replace vc := vc.1 q
      refine go_iinc (x := x1) dX12_qHasSquare_23 rfl ?_
      show gg p l e s m args below meth c G d MX12_qHasSquare Q 26 [some (.ref 82), some (.int (x1 + 1))] [] h
      refine go_goto 2 dX12_qHasSquare_26 rfl ?_
      exact vc
    · replace vc := vc.2 q
      refine go_iconst (v := 1) dX12_qHasSquare_21 rfl ?_
      exact go_zret dX12_qHasSquare_22 rfl (by decide) vc rfl (Nat.le_refl _) (Nat.le_refl _)
set_option maxRecDepth 20000 in
theorem wX12_qDropsNots_0 {p : Program} {l : Launch} {e : Env} {s : State} {m : MethodId} {args : Array Value} {below : List Frame} {meth : Method} {c : Code} {G : gG} {d : Nat} {Q : Option Value → gH → Prop} {h : gH} {lk sp : Nat} {cd : Option Nat}  (hR : h.2.2 = gRF lk sp cd) (hlk : lk = 30 ∨ lk = 67) (hsp : sp = 30 ∨ sp = 67)  (vc : ((¬ (h.1 82 5) = 0 → Q none h) ∧ ((h.1 82 5) = 0 → gC l G d MX12_qIsOn [.ref 82, .int 12] h (rI fun v1 h1 => h1.2.2 = (h).2.2 ∧ ((v1 = 0 → Q none h1) ∧ (¬ v1 = 0 → gC l G d MX12_qDrops [.ref 82] (sI h1 82 109 ((h1.1 82 109) - 1)) (rV fun h2 => h2.2.2 = ((sI h1 82 109 ((h1.1 82 109) - 1))).2.2 ∧ gg p l e s m args below meth c G (d + 1) MX12_qDropsNots Q 0 [some (.ref 82)] [] h2))))))) : gg p l e s m args below meth c G (d + 1) MX12_qDropsNots Q 0 [some (.ref 82)] [] h := by
  refine go_aload_n (x := 82) dX12_qDropsNots_0 rfl ?_
  refine go_getI' (v := (h.1 82 5)) dX12_qDropsNots_1 f12_278 sh82 (fun _ _ => rfl) rfl ?_
  refine go_if_ne 33 dX12_qDropsNots_4 rfl (fun q => ?_) (fun q => ?_)
  · replace vc := vc.1 q
    exact go_vret dX12_qDropsNots_33 rfl vc rfl (Nat.le_refl _) (Nat.le_refl _)
  · replace vc := vc.2 q
    refine go_aload_n (x := 82) dX12_qDropsNots_7 rfl ?_
    refine go_bipush (v := 12) dX12_qDropsNots_8 rfl ?_
    refine gvI1 MX12_qIsOn dX12_qDropsNots_10 lX12_722 kX12_qIsOn vX12_qIsOn sh82 (by decide) rfl (Nat.le_of_ble_eq_true rfl) vc ?_
    intro v1 h1 vc
    obtain ⟨hR1, vc⟩ := vc
    replace hR := hR1.trans hR
    refine go_if_eq 33 dX12_qDropsNots_13 rfl (fun q => ?_) (fun q => ?_)
    · replace vc := vc.1 q
      exact go_vret dX12_qDropsNots_33 rfl vc rfl (Nat.le_refl _) (Nat.le_refl _)
    · replace vc := vc.2 q
      refine go_aload_n (x := 82) dX12_qDropsNots_16 rfl ?_
      refine go_dup dX12_qDropsNots_17 rfl ?_
      refine go_getI' (v := (h1.1 82 109)) dX12_qDropsNots_18 f12_683 sh82 (fun _ _ => rfl) rfl ?_
      refine go_iconst (v := 1) dX12_qDropsNots_21 rfl ?_
      refine go_isub dX12_qDropsNots_22 ?_
      refine go_putI dX12_qDropsNots_23 f12_683 sh82 rfl rfl ?_
      refine go_aload_n (x := 82) dX12_qDropsNots_26 rfl ?_
      refine gvV0 MX12_qDrops dX12_qDropsNots_27 lX12_698 kX12_qDrops vX12_qDrops sh82 (by decide) rfl (Nat.le_of_ble_eq_true rfl) vc ?_
      intro h2 vc
      obtain ⟨hR2, vc⟩ := vc
      replace hR := hR2.trans hR
      refine go_goto 0 dX12_qDropsNots_30 rfl ?_
      exact vc
set_option maxRecDepth 20000 in
theorem wX12_qTest_0 {p : Program} {l : Launch} {e : Env} {s : State} {m : MethodId} {args : Array Value} {below : List Frame} {meth : Method} {c : Code} {G : gG} {d : Nat} {Q : Option Value → gH → Prop} {h : gH} {lk sp : Nat} {cd : Option Nat}  (hR : h.2.2 = gRF lk sp cd) (hlk : lk = 30 ∨ lk = 67) (hsp : sp = 30 ∨ sp = 67)  (vc : gg p l e s m args below meth c G (d + 1) MX12_qTest Q 2 [some (.ref 82), some (.int 1), none] [] h) : gg p l e s m args below meth c G (d + 1) MX12_qTest Q 0 [some (.ref 82), none, none] [] h := by
  refine go_iconst (v := 1) dX12_qTest_0 rfl ?_
  refine go_istore_n dX12_qTest_1 (Nat.le_of_ble_eq_true rfl) ?_
  show gg p l e s m args below meth c G (d + 1) MX12_qTest Q 2 [some (.ref 82), some (.int 1), none] [] h
  exact vc
set_option maxRecDepth 20000 in
theorem wX12_qTest_2 {p : Program} {l : Launch} {e : Env} {s : State} {m : MethodId} {args : Array Value} {below : List Frame} {meth : Method} {c : Code} {G : gG} {d : Nat} {Q : Option Value → gH → Prop} {h : gH} {lk sp : Nat} {cd : Option Nat} {x1 : Int32} (hR : h.2.2 = gRF lk sp cd) (hlk : lk = 30 ∨ lk = 67) (hsp : sp = 30 ∨ sp = 67)  (vc : ((x1 = 0 → gg p l e s m args below meth c G (d + 1) MX12_qTest Q 110 [some (.ref 82), some (.int x1), none] [] h) ∧ (¬ x1 = 0 → ((¬ (h.1 82 5) = 0 → gg p l e s m args below meth c G (d + 1) MX12_qTest Q 110 [some (.ref 82), some (.int x1), none] [] h) ∧ ((h.1 82 5) = 0 → gC l G d MX12_look [.ref 82] h (rI fun v1 h1 => h1.2.2 = (h).2.2 ∧ ((¬ v1 = 91 → gC l G d MX12_isHere [.ref 82, .ref 149] h1 (rI fun v2 h2 => h2.2.2 = (h1).2.2 ∧ ((v2 = 0 → gC l G d MX12_qFact [.ref 82] h2 (rV fun h3 => h3.2.2 = (h2).2.2 ∧ gC l G d MX12_qDropsNots [.ref 82] h3 (rV fun h4 => h4.2.2 = (h3).2.2 ∧ ((¬ (h4.1 82 5) = 0 → gg p l e s m args below meth c G (d + 1) MX12_qTest Q 2 [some (.ref 82), some (.int 0), none] [] h4) ∧ ((h4.1 82 5) = 0 → gC l G d MX12_qGoesOnTest [.ref 82] h4 (rI fun v5 h5 => h5.2.2 = (h4).2.2 ∧ ((v5 = 0 → gg p l e s m args below meth c G (d + 1) MX12_qTest Q 2 [some (.ref 82), some (.int 0), none] [] h5) ∧ (¬ v5 = 0 → gg p l e s m args below meth c G (d + 1) MX12_qTest Q 2 [some (.ref 82), some (.int 1), none] [] h5)))))))) ∧ (¬ v2 = 0 → gC l G d MX12_qOpens [.ref 82, .int 12, .int (h2.1 82 2)] h2 (rV fun h6 => h6.2.2 = (h2).2.2 ∧ gC l G d MX12_asks [.ref 82, .ref 149] h6 (rV fun h7 => h7.2.2 = (h6).2.2 ∧ gg p l e s m args below meth c G (d + 1) MX12_qTest Q 2 [some (.ref 82), some (.int x1), none] [] h7)))))) ∧ (v1 = 91 → gC l G d MX12_qOpens [.ref 82, .int 25, .int (h1.1 82 2)] h1 (rV fun h8 => h8.2.2 = (h1).2.2 ∧ gg p l e s m args below meth c G (d + 1) MX12_qTest Q 2 [some (.ref 82), some (.int x1), none] [] (sI h8 82 2 ((h8.1 82 2) + 1))))))))))) : gg p l e s m args below meth c G (d + 1) MX12_qTest Q 2 [some (.ref 82), some (.int x1), none] [] h := by
  refine go_iload_n (x := x1) dX12_qTest_2 rfl ?_
  refine go_if_eq 110 dX12_qTest_3 rfl (fun q => ?_) (fun q => ?_)
  · replace vc := vc.1 q
    exact vc
  · replace vc := vc.2 q
    refine go_aload_n (x := 82) dX12_qTest_6 rfl ?_
    refine go_getI' (v := (h.1 82 5)) dX12_qTest_7 f12_278 sh82 (fun _ _ => rfl) rfl ?_
    refine go_if_ne 110 dX12_qTest_10 rfl (fun q => ?_) (fun q => ?_)
    · replace vc := vc.1 q
      exact vc
    · replace vc := vc.2 q
      refine go_aload_n (x := 82) dX12_qTest_13 rfl ?_
      refine gvI0 MX12_look dX12_qTest_14 lX12_290 kX12_look vX12_look sh82 (by decide) rfl (Nat.le_of_ble_eq_true rfl) vc ?_
      intro v1 h1 vc
      obtain ⟨hR1, vc⟩ := vc
      replace hR := hR1.trans hR
      refine go_istore_n dX12_qTest_17 (Nat.le_of_ble_eq_true rfl) ?_
      show gg p l e s m args below meth c G (d + 1) MX12_qTest Q 18 [some (.ref 82), some (.int x1), some (.int v1)] [] h1
      refine go_iload_n (x := v1) dX12_qTest_18 rfl ?_
      refine go_bipush (v := 91) dX12_qTest_19 rfl ?_
      refine go_icmp_ne 47 dX12_qTest_21 rfl (fun q => ?_) (fun q => ?_)
      · replace vc := vc.1 q
        refine go_aload_n (x := 82) dX12_qTest_47 rfl ?_
        refine go_aload_n (x := 82) dX12_qTest_48 rfl ?_
        refine go_getR (x := 149) dX12_qTest_49 f12_218 sh82 (fun _ _ => rfl) (rf82_90 hR) ?_
        refine gvI1 MX12_isHere dX12_qTest_52 lX12_301 kX12_isHere vX12_isHere sh82 (by decide) rfl (Nat.le_of_ble_eq_true rfl) vc ?_
        intro v2 h2 vc
        obtain ⟨hR2, vc⟩ := vc
        replace hR := hR2.trans hR
        refine go_if_eq 79 dX12_qTest_55 rfl (fun q => ?_) (fun q => ?_)
        · replace vc := vc.1 q
          refine go_aload_n (x := 82) dX12_qTest_79 rfl ?_
          refine gvV0 MX12_qFact dX12_qTest_80 lX12_734 kX12_qFact vX12_qFact sh82 (by decide) rfl (Nat.le_of_ble_eq_true rfl) vc ?_
          intro h3 vc
          obtain ⟨hR3, vc⟩ := vc
          replace hR := hR3.trans hR
          refine go_aload_n (x := 82) dX12_qTest_83 rfl ?_
          refine gvV0 MX12_qDropsNots dX12_qTest_84 lX12_737 kX12_qDropsNots vX12_qDropsNots sh82 (by decide) rfl (Nat.le_of_ble_eq_true rfl) vc ?_
          intro h4 vc
          obtain ⟨hR4, vc⟩ := vc
          replace hR := hR4.trans hR
          refine go_aload_n (x := 82) dX12_qTest_87 rfl ?_
          refine go_getI' (v := (h4.1 82 5)) dX12_qTest_88 f12_278 sh82 (fun _ _ => rfl) rfl ?_
          refine go_if_ne 105 dX12_qTest_91 rfl (fun q => ?_) (fun q => ?_)
          · replace vc := vc.1 q
            refine go_iconst (v := 0) dX12_qTest_105 rfl ?_
            refine go_istore_n dX12_qTest_106 (Nat.le_of_ble_eq_true rfl) ?_
            show gg p l e s m args below meth c G (d + 1) MX12_qTest Q 107 [some (.ref 82), some (.int 0), some (.int v1)] [] h4
            refine go_goto 2 dX12_qTest_107 rfl ?_
            refine go_weak (ls' := [some (.ref 82), some (.int 0), none]) ?_ vc
            exact (⟨rfl, ⟨rfl, trivial⟩⟩)
          · replace vc := vc.2 q
            refine go_aload_n (x := 82) dX12_qTest_94 rfl ?_
            refine gvI0 MX12_qGoesOnTest dX12_qTest_95 lX12_740 kX12_qGoesOnTest vX12_qGoesOnTest sh82 (by decide) rfl (Nat.le_of_ble_eq_true rfl) vc ?_
            intro v5 h5 vc
            obtain ⟨hR5, vc⟩ := vc
            replace hR := hR5.trans hR
            refine go_if_eq 105 dX12_qTest_98 rfl (fun q => ?_) (fun q => ?_)
            · replace vc := vc.1 q
              refine go_iconst (v := 0) dX12_qTest_105 rfl ?_
              refine go_istore_n dX12_qTest_106 (Nat.le_of_ble_eq_true rfl) ?_
              show gg p l e s m args below meth c G (d + 1) MX12_qTest Q 107 [some (.ref 82), some (.int 0), some (.int v1)] [] h5
              refine go_goto 2 dX12_qTest_107 rfl ?_
              refine go_weak (ls' := [some (.ref 82), some (.int 0), none]) ?_ vc
              exact (⟨rfl, ⟨rfl, trivial⟩⟩)
            · replace vc := vc.2 q
              refine go_iconst (v := 1) dX12_qTest_101 rfl ?_
              refine go_goto 106 dX12_qTest_102 rfl ?_
              refine go_istore_n dX12_qTest_106 (Nat.le_of_ble_eq_true rfl) ?_
              show gg p l e s m args below meth c G (d + 1) MX12_qTest Q 107 [some (.ref 82), some (.int 1), some (.int v1)] [] h5
              refine go_goto 2 dX12_qTest_107 rfl ?_
              refine go_weak (ls' := [some (.ref 82), some (.int 1), none]) ?_ vc
              exact (⟨rfl, ⟨rfl, trivial⟩⟩)
        · replace vc := vc.2 q
          refine go_aload_n (x := 82) dX12_qTest_58 rfl ?_
          refine go_bipush (v := 12) dX12_qTest_59 rfl ?_
          refine go_aload_n (x := 82) dX12_qTest_61 rfl ?_
          refine go_getI' (v := (h2.1 82 2)) dX12_qTest_62 f12_284 sh82 (fun _ _ => rfl) rfl ?_
          refine gvV2 MX12_qOpens dX12_qTest_65 lX12_707 kX12_qOpens vX12_qOpens sh82 (by decide) rfl (Nat.le_of_ble_eq_true rfl) vc ?_
          intro h6 vc
          obtain ⟨hR6, vc⟩ := vc
          replace hR := hR6.trans hR
          refine go_aload_n (x := 82) dX12_qTest_68 rfl ?_
          refine go_aload_n (x := 82) dX12_qTest_69 rfl ?_
          refine go_getR (x := 149) dX12_qTest_70 f12_218 sh82 (fun _ _ => rfl) (rf82_90 hR) ?_
          refine gvV1 MX12_asks dX12_qTest_73 lX12_344 kX12_asks vX12_asks sh82 (by decide) rfl (Nat.le_of_ble_eq_true rfl) vc ?_
          intro h7 vc
          obtain ⟨hR7, vc⟩ := vc
          replace hR := hR7.trans hR
          refine go_goto 2 dX12_qTest_76 rfl ?_
          refine go_weak (ls' := [some (.ref 82), some (.int x1), none]) ?_ vc
          exact (⟨rfl, ⟨rfl, trivial⟩⟩)
      · replace vc := vc.2 q
        refine go_aload_n (x := 82) dX12_qTest_24 rfl ?_
        refine go_bipush (v := 25) dX12_qTest_25 rfl ?_
        refine go_aload_n (x := 82) dX12_qTest_27 rfl ?_
        refine go_getI' (v := (h1.1 82 2)) dX12_qTest_28 f12_284 sh82 (fun _ _ => rfl) rfl ?_
        refine gvV2 MX12_qOpens dX12_qTest_31 lX12_707 kX12_qOpens vX12_qOpens sh82 (by decide) rfl (Nat.le_of_ble_eq_true rfl) vc ?_
        intro h8 vc
        obtain ⟨hR8, vc⟩ := vc
        replace hR := hR8.trans hR
        refine go_aload_n (x := 82) dX12_qTest_34 rfl ?_
        refine go_dup dX12_qTest_35 rfl ?_
        refine go_getI' (v := (h8.1 82 2)) dX12_qTest_36 f12_284 sh82 (fun _ _ => rfl) rfl ?_
        refine go_iconst (v := 1) dX12_qTest_39 rfl ?_
        refine go_iadd dX12_qTest_40 ?_
        refine go_putI dX12_qTest_41 f12_284 sh82 rfl rfl ?_
        refine go_goto 2 dX12_qTest_44 rfl ?_
        refine go_weak (ls' := [some (.ref 82), some (.int x1), none]) ?_ vc
        exact (⟨rfl, ⟨rfl, trivial⟩⟩)
set_option maxRecDepth 20000 in
theorem wX12_qTest_110 {p : Program} {l : Launch} {e : Env} {s : State} {m : MethodId} {args : Array Value} {below : List Frame} {meth : Method} {c : Code} {G : gG} {d : Nat} {Q : Option Value → gH → Prop} {h : gH} {lk sp : Nat} {cd : Option Nat} {x1 : Int32} (hR : h.2.2 = gRF lk sp cd) (hlk : lk = 30 ∨ lk = 67) (hsp : sp = 30 ∨ sp = 67)  (vc : ((¬ (h.1 82 5) = 0 → Q none h) ∧ ((h.1 82 5) = 0 → (((h.1 82 108) ≤ 0 → Q none h) ∧ (¬ (h.1 82 108) ≤ 0 → gC l G d MX12_qDrops [.ref 82] h (rV fun h1 => h1.2.2 = (h).2.2 ∧ gg p l e s m args below meth c G (d + 1) MX12_qTest Q 110 [some (.ref 82), some (.int x1), none] [] h1)))))) : gg p l e s m args below meth c G (d + 1) MX12_qTest Q 110 [some (.ref 82), some (.int x1), none] [] h := by
  refine go_aload_n (x := 82) dX12_qTest_110 rfl ?_
  refine go_getI' (v := (h.1 82 5)) dX12_qTest_111 f12_278 sh82 (fun _ _ => rfl) rfl ?_
  refine go_if_ne 131 dX12_qTest_114 rfl (fun q => ?_) (fun q => ?_)
  · replace vc := vc.1 q
    exact go_vret dX12_qTest_131 rfl vc rfl (Nat.le_refl _) (Nat.le_refl _)
  · replace vc := vc.2 q
    refine go_aload_n (x := 82) dX12_qTest_117 rfl ?_
    refine go_getI' (v := (h.1 82 108)) dX12_qTest_118 f12_686 sh82 (fun _ _ => rfl) rfl ?_
    refine go_if_le 131 dX12_qTest_121 rfl (fun q => ?_) (fun q => ?_)
    · replace vc := vc.1 q
      exact go_vret dX12_qTest_131 rfl vc rfl (Nat.le_refl _) (Nat.le_refl _)
    · replace vc := vc.2 q
      refine go_aload_n (x := 82) dX12_qTest_124 rfl ?_
      refine gvV0 MX12_qDrops dX12_qTest_125 lX12_698 kX12_qDrops vX12_qDrops sh82 (by decide) rfl (Nat.le_of_ble_eq_true rfl) vc ?_
      intro h1 vc
      obtain ⟨hR1, vc⟩ := vc
      replace hR := hR1.trans hR
      refine go_goto 110 dX12_qTest_128 rfl ?_
      exact vc
set_option maxRecDepth 20000 in
theorem wX12_qGoesOnTest_0 {p : Program} {l : Launch} {e : Env} {s : State} {m : MethodId} {args : Array Value} {below : List Frame} {meth : Method} {c : Code} {G : gG} {d : Nat} {Q : Option Value → gH → Prop} {h : gH} {lk sp : Nat} {cd : Option Nat}  (hR : h.2.2 = gRF lk sp cd) (hlk : lk = 30 ∨ lk = 67) (hsp : sp = 30 ∨ sp = 67)  (vc : ((¬ (h.1 82 5) = 0 → gC l G d MX12_takes [.ref 82, .ref 150] h (rI fun v1 h1 => h1.2.2 = (h).2.2 ∧ ((v1 = 0 → gC l G d MX12_takes [.ref 82, .ref 151] h1 (rI fun v2 h2 => h2.2.2 = (h1).2.2 ∧ ((v2 = 0 → ((¬ (h2.1 82 5) = 0 → Q (some (.int 0)) h2) ∧ ((h2.1 82 5) = 0 → gC l G d MX12_qHasSquare [.ref 82] h2 (rI fun v3 h3 => h3.2.2 = (h2).2.2 ∧ ((v3 = 0 → Q (some (.int 0)) h3) ∧ (¬ v3 = 0 → gC l G d MX12_fail [.ref 82, .int 1, .int (h3.1 82 2)] h3 (rV fun h4 => h4.2.2 = (h3).2.2 ∧ Q (some (.int 0)) h4))))))) ∧ (¬ v2 = 0 → gg p l e s m args below meth c G (d + 1) MX12_qGoesOnTest Q 137 [some (.ref 82)] [] h2)))) ∧ (¬ v1 = 0 → gg p l e s m args below meth c G (d + 1) MX12_qGoesOnTest Q 87 [some (.ref 82)] [] h1)))) ∧ ((h.1 82 5) = 0 → gC l G d MX12_look [.ref 82] h (rI fun v5 h5 => h5.2.2 = (h).2.2 ∧ ((¬ v5 = 93 → gC l G d MX12_takes [.ref 82, .ref 150] h5 (rI fun v6 h6 => h6.2.2 = (h5).2.2 ∧ ((v6 = 0 → gC l G d MX12_takes [.ref 82, .ref 151] h6 (rI fun v7 h7 => h7.2.2 = (h6).2.2 ∧ ((v7 = 0 → ((¬ (h7.1 82 5) = 0 → Q (some (.int 0)) h7) ∧ ((h7.1 82 5) = 0 → gC l G d MX12_qHasSquare [.ref 82] h7 (rI fun v8 h8 => h8.2.2 = (h7).2.2 ∧ ((v8 = 0 → Q (some (.int 0)) h8) ∧ (¬ v8 = 0 → gC l G d MX12_fail [.ref 82, .int 1, .int (h8.1 82 2)] h8 (rV fun h9 => h9.2.2 = (h8).2.2 ∧ Q (some (.int 0)) h9))))))) ∧ (¬ v7 = 0 → gg p l e s m args below meth c G (d + 1) MX12_qGoesOnTest Q 137 [some (.ref 82)] [] h7)))) ∧ (¬ v6 = 0 → gg p l e s m args below meth c G (d + 1) MX12_qGoesOnTest Q 87 [some (.ref 82)] [] h6)))) ∧ (v5 = 93 → gC l G d MX12_qHasSquare [.ref 82] h5 (rI fun v10 h10 => h10.2.2 = (h5).2.2 ∧ ((v10 = 0 → gC l G d MX12_takes [.ref 82, .ref 150] h10 (rI fun v11 h11 => h11.2.2 = (h10).2.2 ∧ ((v11 = 0 → gC l G d MX12_takes [.ref 82, .ref 151] h11 (rI fun v12 h12 => h12.2.2 = (h11).2.2 ∧ ((v12 = 0 → ((¬ (h12.1 82 5) = 0 → Q (some (.int 0)) h12) ∧ ((h12.1 82 5) = 0 → gC l G d MX12_qHasSquare [.ref 82] h12 (rI fun v13 h13 => h13.2.2 = (h12).2.2 ∧ ((v13 = 0 → Q (some (.int 0)) h13) ∧ (¬ v13 = 0 → gC l G d MX12_fail [.ref 82, .int 1, .int (h13.1 82 2)] h13 (rV fun h14 => h14.2.2 = (h13).2.2 ∧ Q (some (.int 0)) h14))))))) ∧ (¬ v12 = 0 → gg p l e s m args below meth c G (d + 1) MX12_qGoesOnTest Q 137 [some (.ref 82)] [] h12)))) ∧ (¬ v11 = 0 → gg p l e s m args below meth c G (d + 1) MX12_qGoesOnTest Q 87 [some (.ref 82)] [] h11)))) ∧ (¬ v10 = 0 → gg p l e s m args below meth c G (d + 1) MX12_qGoesOnTest Q 33 [some (.ref 82)] [] (sI h10 82 2 ((h10.1 82 2) + 1))))))))))) : gg p l e s m args below meth c G (d + 1) MX12_qGoesOnTest Q 0 [some (.ref 82)] [] h := by
  refine go_aload_n (x := 82) dX12_qGoesOnTest_0 rfl ?_
  refine go_getI' (v := (h.1 82 5)) dX12_qGoesOnTest_1 f12_278 sh82 (fun _ _ => rfl) rfl ?_
  refine go_if_ne 76 dX12_qGoesOnTest_4 rfl (fun q => ?_) (fun q => ?_)
  · replace vc := vc.1 q
    refine go_aload_n (x := 82) dX12_qGoesOnTest_76 rfl ?_
    refine go_aload_n (x := 82) dX12_qGoesOnTest_77 rfl ?_
    refine go_getR (x := 150) dX12_qGoesOnTest_78 f12_221 sh82 (fun _ _ => rfl) (rf82_91 hR) ?_
    refine gvI1 MX12_takes dX12_qGoesOnTest_81 lX12_305 kX12_takes vX12_takes sh82 (by decide) rfl (Nat.le_of_ble_eq_true rfl) vc ?_
    intro v1 h1 vc
    obtain ⟨hR1, vc⟩ := vc
    replace hR := hR1.trans hR
    refine go_if_eq 126 dX12_qGoesOnTest_84 rfl (fun q => ?_) (fun q => ?_)
    · replace vc := vc.1 q
      refine go_aload_n (x := 82) dX12_qGoesOnTest_126 rfl ?_
      refine go_aload_n (x := 82) dX12_qGoesOnTest_127 rfl ?_
      refine go_getR (x := 151) dX12_qGoesOnTest_128 f12_224 sh82 (fun _ _ => rfl) (rf82_92 hR) ?_
      refine gvI1 MX12_takes dX12_qGoesOnTest_131 lX12_305 kX12_takes vX12_takes sh82 (by decide) rfl (Nat.le_of_ble_eq_true rfl) vc ?_
      intro v2 h2 vc
      obtain ⟨hR2, vc⟩ := vc
      replace hR := hR2.trans hR
      refine go_if_eq 185 dX12_qGoesOnTest_134 rfl (fun q => ?_) (fun q => ?_)
      · replace vc := vc.1 q
        refine go_aload_n (x := 82) dX12_qGoesOnTest_185 rfl ?_
        refine go_getI' (v := (h2.1 82 5)) dX12_qGoesOnTest_186 f12_278 sh82 (fun _ _ => rfl) rfl ?_
        refine go_if_ne 208 dX12_qGoesOnTest_189 rfl (fun q => ?_) (fun q => ?_)
        · replace vc := vc.1 q
          refine go_iconst (v := 0) dX12_qGoesOnTest_208 rfl ?_
          exact go_zret dX12_qGoesOnTest_209 rfl (by decide) vc rfl (Nat.le_refl _) (Nat.le_refl _)
        · replace vc := vc.2 q
          refine go_aload_n (x := 82) dX12_qGoesOnTest_192 rfl ?_
          refine gvI0 MX12_qHasSquare dX12_qGoesOnTest_193 lX12_743 kX12_qHasSquare vX12_qHasSquare sh82 (by decide) rfl (Nat.le_of_ble_eq_true rfl) vc ?_
          intro v3 h3 vc
          obtain ⟨hR3, vc⟩ := vc
          replace hR := hR3.trans hR
          refine go_if_eq 208 dX12_qGoesOnTest_196 rfl (fun q => ?_) (fun q => ?_)
          · replace vc := vc.1 q
            refine go_iconst (v := 0) dX12_qGoesOnTest_208 rfl ?_
            exact go_zret dX12_qGoesOnTest_209 rfl (by decide) vc rfl (Nat.le_refl _) (Nat.le_refl _)
          · replace vc := vc.2 q
            refine go_aload_n (x := 82) dX12_qGoesOnTest_199 rfl ?_
            refine go_iconst (v := 1) dX12_qGoesOnTest_200 rfl ?_
            refine go_aload_n (x := 82) dX12_qGoesOnTest_201 rfl ?_
            refine go_getI' (v := (h3.1 82 2)) dX12_qGoesOnTest_202 f12_284 sh82 (fun _ _ => rfl) rfl ?_
            refine gvV2 MX12_fail dX12_qGoesOnTest_205 lX12_308 kX12_fail vX12_fail sh82 (by decide) rfl (Nat.le_of_ble_eq_true rfl) vc ?_
            intro h4 vc
            obtain ⟨hR4, vc⟩ := vc
            replace hR := hR4.trans hR
            refine go_iconst (v := 0) dX12_qGoesOnTest_208 rfl ?_
            exact go_zret dX12_qGoesOnTest_209 rfl (by decide) vc rfl (Nat.le_refl _) (Nat.le_refl _)
      · replace vc := vc.2 q
        exact vc
    · replace vc := vc.2 q
      exact vc
  · replace vc := vc.2 q
    refine go_aload_n (x := 82) dX12_qGoesOnTest_7 rfl ?_
    refine gvI0 MX12_look dX12_qGoesOnTest_8 lX12_290 kX12_look vX12_look sh82 (by decide) rfl (Nat.le_of_ble_eq_true rfl) vc ?_
    intro v5 h5 vc
    obtain ⟨hR5, vc⟩ := vc
    replace hR := hR5.trans hR
    refine go_bipush (v := 93) dX12_qGoesOnTest_11 rfl ?_
    refine go_icmp_ne 76 dX12_qGoesOnTest_13 rfl (fun q => ?_) (fun q => ?_)
    · replace vc := vc.1 q
      refine go_aload_n (x := 82) dX12_qGoesOnTest_76 rfl ?_
      refine go_aload_n (x := 82) dX12_qGoesOnTest_77 rfl ?_
      refine go_getR (x := 150) dX12_qGoesOnTest_78 f12_221 sh82 (fun _ _ => rfl) (rf82_91 hR) ?_
      refine gvI1 MX12_takes dX12_qGoesOnTest_81 lX12_305 kX12_takes vX12_takes sh82 (by decide) rfl (Nat.le_of_ble_eq_true rfl) vc ?_
      intro v6 h6 vc
      obtain ⟨hR6, vc⟩ := vc
      replace hR := hR6.trans hR
      refine go_if_eq 126 dX12_qGoesOnTest_84 rfl (fun q => ?_) (fun q => ?_)
      · replace vc := vc.1 q
        refine go_aload_n (x := 82) dX12_qGoesOnTest_126 rfl ?_
        refine go_aload_n (x := 82) dX12_qGoesOnTest_127 rfl ?_
        refine go_getR (x := 151) dX12_qGoesOnTest_128 f12_224 sh82 (fun _ _ => rfl) (rf82_92 hR) ?_
        refine gvI1 MX12_takes dX12_qGoesOnTest_131 lX12_305 kX12_takes vX12_takes sh82 (by decide) rfl (Nat.le_of_ble_eq_true rfl) vc ?_
        intro v7 h7 vc
        obtain ⟨hR7, vc⟩ := vc
        replace hR := hR7.trans hR
        refine go_if_eq 185 dX12_qGoesOnTest_134 rfl (fun q => ?_) (fun q => ?_)
        · replace vc := vc.1 q
          refine go_aload_n (x := 82) dX12_qGoesOnTest_185 rfl ?_
          refine go_getI' (v := (h7.1 82 5)) dX12_qGoesOnTest_186 f12_278 sh82 (fun _ _ => rfl) rfl ?_
          refine go_if_ne 208 dX12_qGoesOnTest_189 rfl (fun q => ?_) (fun q => ?_)
          · replace vc := vc.1 q
            refine go_iconst (v := 0) dX12_qGoesOnTest_208 rfl ?_
            exact go_zret dX12_qGoesOnTest_209 rfl (by decide) vc rfl (Nat.le_refl _) (Nat.le_refl _)
          · replace vc := vc.2 q
            refine go_aload_n (x := 82) dX12_qGoesOnTest_192 rfl ?_
            refine gvI0 MX12_qHasSquare dX12_qGoesOnTest_193 lX12_743 kX12_qHasSquare vX12_qHasSquare sh82 (by decide) rfl (Nat.le_of_ble_eq_true rfl) vc ?_
            intro v8 h8 vc
            obtain ⟨hR8, vc⟩ := vc
            replace hR := hR8.trans hR
            refine go_if_eq 208 dX12_qGoesOnTest_196 rfl (fun q => ?_) (fun q => ?_)
            · replace vc := vc.1 q
              refine go_iconst (v := 0) dX12_qGoesOnTest_208 rfl ?_
              exact go_zret dX12_qGoesOnTest_209 rfl (by decide) vc rfl (Nat.le_refl _) (Nat.le_refl _)
            · replace vc := vc.2 q
              refine go_aload_n (x := 82) dX12_qGoesOnTest_199 rfl ?_
              refine go_iconst (v := 1) dX12_qGoesOnTest_200 rfl ?_
              refine go_aload_n (x := 82) dX12_qGoesOnTest_201 rfl ?_
              refine go_getI' (v := (h8.1 82 2)) dX12_qGoesOnTest_202 f12_284 sh82 (fun _ _ => rfl) rfl ?_
              refine gvV2 MX12_fail dX12_qGoesOnTest_205 lX12_308 kX12_fail vX12_fail sh82 (by decide) rfl (Nat.le_of_ble_eq_true rfl) vc ?_
              intro h9 vc
              obtain ⟨hR9, vc⟩ := vc
              replace hR := hR9.trans hR
              refine go_iconst (v := 0) dX12_qGoesOnTest_208 rfl ?_
              exact go_zret dX12_qGoesOnTest_209 rfl (by decide) vc rfl (Nat.le_refl _) (Nat.le_refl _)
        · replace vc := vc.2 q
          exact vc
      · replace vc := vc.2 q
        exact vc
    · replace vc := vc.2 q
      refine go_aload_n (x := 82) dX12_qGoesOnTest_16 rfl ?_
      refine gvI0 MX12_qHasSquare dX12_qGoesOnTest_17 lX12_743 kX12_qHasSquare vX12_qHasSquare sh82 (by decide) rfl (Nat.le_of_ble_eq_true rfl) vc ?_
      intro v10 h10 vc
      obtain ⟨hR10, vc⟩ := vc
      replace hR := hR10.trans hR
      refine go_if_eq 76 dX12_qGoesOnTest_20 rfl (fun q => ?_) (fun q => ?_)
      · replace vc := vc.1 q
        refine go_aload_n (x := 82) dX12_qGoesOnTest_76 rfl ?_
        refine go_aload_n (x := 82) dX12_qGoesOnTest_77 rfl ?_
        refine go_getR (x := 150) dX12_qGoesOnTest_78 f12_221 sh82 (fun _ _ => rfl) (rf82_91 hR) ?_
        refine gvI1 MX12_takes dX12_qGoesOnTest_81 lX12_305 kX12_takes vX12_takes sh82 (by decide) rfl (Nat.le_of_ble_eq_true rfl) vc ?_
        intro v11 h11 vc
        obtain ⟨hR11, vc⟩ := vc
        replace hR := hR11.trans hR
        refine go_if_eq 126 dX12_qGoesOnTest_84 rfl (fun q => ?_) (fun q => ?_)
        · replace vc := vc.1 q
          refine go_aload_n (x := 82) dX12_qGoesOnTest_126 rfl ?_
          refine go_aload_n (x := 82) dX12_qGoesOnTest_127 rfl ?_
          refine go_getR (x := 151) dX12_qGoesOnTest_128 f12_224 sh82 (fun _ _ => rfl) (rf82_92 hR) ?_
          refine gvI1 MX12_takes dX12_qGoesOnTest_131 lX12_305 kX12_takes vX12_takes sh82 (by decide) rfl (Nat.le_of_ble_eq_true rfl) vc ?_
          intro v12 h12 vc
          obtain ⟨hR12, vc⟩ := vc
          replace hR := hR12.trans hR
          refine go_if_eq 185 dX12_qGoesOnTest_134 rfl (fun q => ?_) (fun q => ?_)
          · replace vc := vc.1 q
            refine go_aload_n (x := 82) dX12_qGoesOnTest_185 rfl ?_
            refine go_getI' (v := (h12.1 82 5)) dX12_qGoesOnTest_186 f12_278 sh82 (fun _ _ => rfl) rfl ?_
            refine go_if_ne 208 dX12_qGoesOnTest_189 rfl (fun q => ?_) (fun q => ?_)
            · replace vc := vc.1 q
              refine go_iconst (v := 0) dX12_qGoesOnTest_208 rfl ?_
              exact go_zret dX12_qGoesOnTest_209 rfl (by decide) vc rfl (Nat.le_refl _) (Nat.le_refl _)
            · replace vc := vc.2 q
              refine go_aload_n (x := 82) dX12_qGoesOnTest_192 rfl ?_
              refine gvI0 MX12_qHasSquare dX12_qGoesOnTest_193 lX12_743 kX12_qHasSquare vX12_qHasSquare sh82 (by decide) rfl (Nat.le_of_ble_eq_true rfl) vc ?_
              intro v13 h13 vc
              obtain ⟨hR13, vc⟩ := vc
              replace hR := hR13.trans hR
              refine go_if_eq 208 dX12_qGoesOnTest_196 rfl (fun q => ?_) (fun q => ?_)
              · replace vc := vc.1 q
                refine go_iconst (v := 0) dX12_qGoesOnTest_208 rfl ?_
                exact go_zret dX12_qGoesOnTest_209 rfl (by decide) vc rfl (Nat.le_refl _) (Nat.le_refl _)
              · replace vc := vc.2 q
                refine go_aload_n (x := 82) dX12_qGoesOnTest_199 rfl ?_
                refine go_iconst (v := 1) dX12_qGoesOnTest_200 rfl ?_
                refine go_aload_n (x := 82) dX12_qGoesOnTest_201 rfl ?_
                refine go_getI' (v := (h13.1 82 2)) dX12_qGoesOnTest_202 f12_284 sh82 (fun _ _ => rfl) rfl ?_
                refine gvV2 MX12_fail dX12_qGoesOnTest_205 lX12_308 kX12_fail vX12_fail sh82 (by decide) rfl (Nat.le_of_ble_eq_true rfl) vc ?_
                intro h14 vc
                obtain ⟨hR14, vc⟩ := vc
                replace hR := hR14.trans hR
                refine go_iconst (v := 0) dX12_qGoesOnTest_208 rfl ?_
                exact go_zret dX12_qGoesOnTest_209 rfl (by decide) vc rfl (Nat.le_refl _) (Nat.le_refl _)
          · replace vc := vc.2 q
            exact vc
        · replace vc := vc.2 q
          exact vc
      · replace vc := vc.2 q
        refine go_aload_n (x := 82) dX12_qGoesOnTest_23 rfl ?_
        refine go_dup dX12_qGoesOnTest_24 rfl ?_
        refine go_getI' (v := (h10.1 82 2)) dX12_qGoesOnTest_25 f12_284 sh82 (fun _ _ => rfl) rfl ?_
        refine go_iconst (v := 1) dX12_qGoesOnTest_28 rfl ?_
        refine go_iadd dX12_qGoesOnTest_29 ?_
        refine go_putI dX12_qGoesOnTest_30 f12_284 sh82 rfl rfl ?_
        exact vc
set_option maxRecDepth 20000 in
theorem wX12_qGoesOnTest_33 {p : Program} {l : Launch} {e : Env} {s : State} {m : MethodId} {args : Array Value} {below : List Frame} {meth : Method} {c : Code} {G : gG} {d : Nat} {Q : Option Value → gH → Prop} {h : gH} {lk sp : Nat} {cd : Option Nat}  (hR : h.2.2 = gRF lk sp cd) (hlk : lk = 30 ∨ lk = 67) (hsp : sp = 30 ∨ sp = 67)  (vc : gC l G d MX12_qIsOn [.ref 82, .int 25] h (rI fun v1 h1 => h1.2.2 = (h).2.2 ∧ ((¬ v1 = 0 → gC l G d MX12_qDropsNots [.ref 82] (sI (sI h1 82 108 ((h1.1 82 108) - 1)) 82 109 ((h1.1 82 109) - 1)) (rV fun h2 => h2.2.2 = ((sI (sI h1 82 108 ((h1.1 82 108) - 1)) 82 109 ((h1.1 82 109) - 1))).2.2 ∧ gg p l e s m args below meth c G (d + 1) MX12_qGoesOnTest Q 0 [some (.ref 82)] [] h2)) ∧ (v1 = 0 → gC l G d MX12_qDrops [.ref 82] h1 (rV fun h3 => h3.2.2 = (h1).2.2 ∧ gg p l e s m args below meth c G (d + 1) MX12_qGoesOnTest Q 33 [some (.ref 82)] [] h3))))) : gg p l e s m args below meth c G (d + 1) MX12_qGoesOnTest Q 33 [some (.ref 82)] [] h := by
  refine go_aload_n (x := 82) dX12_qGoesOnTest_33 rfl ?_
  refine go_bipush (v := 25) dX12_qGoesOnTest_34 rfl ?_
  refine gvI1 MX12_qIsOn dX12_qGoesOnTest_36 lX12_722 kX12_qIsOn vX12_qIsOn sh82 (by decide) rfl (Nat.le_of_ble_eq_true rfl) vc ?_
  intro v1 h1 vc
  obtain ⟨hR1, vc⟩ := vc
  replace hR := hR1.trans hR
  refine go_if_ne 49 dX12_qGoesOnTest_39 rfl (fun q => ?_) (fun q => ?_)
  · replace vc := vc.1 q
    refine go_aload_n (x := 82) dX12_qGoesOnTest_49 rfl ?_
    refine go_dup dX12_qGoesOnTest_50 rfl ?_
    refine go_getI' (v := (h1.1 82 108)) dX12_qGoesOnTest_51 f12_686 sh82 (fun _ _ => rfl) rfl ?_
    refine go_iconst (v := 1) dX12_qGoesOnTest_54 rfl ?_
    refine go_isub dX12_qGoesOnTest_55 ?_
    refine go_putI dX12_qGoesOnTest_56 f12_686 sh82 rfl rfl ?_
    refine go_aload_n (x := 82) dX12_qGoesOnTest_59 rfl ?_
    refine go_dup dX12_qGoesOnTest_60 rfl ?_
    refine go_getI' (v := (h1.1 82 109)) dX12_qGoesOnTest_61 f12_683 sh82 (fun _ _ => rfl) rfl ?_
    refine go_iconst (v := 1) dX12_qGoesOnTest_64 rfl ?_
    refine go_isub dX12_qGoesOnTest_65 ?_
    refine go_putI dX12_qGoesOnTest_66 f12_683 sh82 rfl rfl ?_
    refine go_aload_n (x := 82) dX12_qGoesOnTest_69 rfl ?_
    refine gvV0 MX12_qDropsNots dX12_qGoesOnTest_70 lX12_737 kX12_qDropsNots vX12_qDropsNots sh82 (by decide) rfl (Nat.le_of_ble_eq_true rfl) vc ?_
    intro h2 vc
    obtain ⟨hR2, vc⟩ := vc
    replace hR := hR2.trans hR
    refine go_goto 0 dX12_qGoesOnTest_73 rfl ?_
    exact vc
  · replace vc := vc.2 q
    refine go_aload_n (x := 82) dX12_qGoesOnTest_42 rfl ?_
    refine gvV0 MX12_qDrops dX12_qGoesOnTest_43 lX12_698 kX12_qDrops vX12_qDrops sh82 (by decide) rfl (Nat.le_of_ble_eq_true rfl) vc ?_
    intro h3 vc
    obtain ⟨hR3, vc⟩ := vc
    replace hR := hR3.trans hR
    refine go_goto 33 dX12_qGoesOnTest_46 rfl ?_
    exact vc
set_option maxRecDepth 20000 in
theorem wX12_qGoesOnTest_87 {p : Program} {l : Launch} {e : Env} {s : State} {m : MethodId} {args : Array Value} {below : List Frame} {meth : Method} {c : Code} {G : gG} {d : Nat} {Q : Option Value → gH → Prop} {h : gH} {lk sp : Nat} {cd : Option Nat}  (hR : h.2.2 = gRF lk sp cd) (hlk : lk = 30 ∨ lk = 67) (hsp : sp = 30 ∨ sp = 67)  (vc : gC l G d MX12_qIsOn [.ref 82, .int 10] h (rI fun v1 h1 => h1.2.2 = (h).2.2 ∧ ((v1 = 0 → (vp_in ((h1.1 82 108)) 1700 ∧ Q (some (.int 1)) (sI (sI h1 165 ((h1.1 82 108) : Int32).toNatClampNeg 10) 82 108 ((h1.1 82 108) + 1)))) ∧ (¬ v1 = 0 → gC l G d MX12_qDrops [.ref 82] h1 (rV fun h2 => h2.2.2 = (h1).2.2 ∧ gg p l e s m args below meth c G (d + 1) MX12_qGoesOnTest Q 87 [some (.ref 82)] [] h2))))) : gg p l e s m args below meth c G (d + 1) MX12_qGoesOnTest Q 87 [some (.ref 82)] [] h := by
  refine go_aload_n (x := 82) dX12_qGoesOnTest_87 rfl ?_
  refine go_bipush (v := 10) dX12_qGoesOnTest_88 rfl ?_
  refine gvI1 MX12_qIsOn dX12_qGoesOnTest_90 lX12_722 kX12_qIsOn vX12_qIsOn sh82 (by decide) rfl (Nat.le_of_ble_eq_true rfl) vc ?_
  intro v1 h1 vc
  obtain ⟨hR1, vc⟩ := vc
  replace hR := hR1.trans hR
  refine go_if_eq 103 dX12_qGoesOnTest_93 rfl (fun q => ?_) (fun q => ?_)
  · replace vc := vc.1 q
    refine go_aload_n (x := 82) dX12_qGoesOnTest_103 rfl ?_
    refine go_getR (x := 165) dX12_qGoesOnTest_104 f12_266 sh82 (fun _ _ => rfl) (rf82_107 hR) ?_
    refine go_aload_n (x := 82) dX12_qGoesOnTest_107 rfl ?_
    refine go_getI' (v := (h1.1 82 108)) dX12_qGoesOnTest_108 f12_686 sh82 (fun _ _ => rfl) rfl ?_
    refine go_bipush (v := 10) dX12_qGoesOnTest_111 rfl ?_
    refine go_iast dX12_qGoesOnTest_113 sh165 vc.1 ?_
    have vc := vc.2
    show gg p l e s m args below meth c G (d + 1) MX12_qGoesOnTest Q 114 [some (.ref 82)] [] (sI h1 165 ((h1.1 82 108) : Int32).toNatClampNeg 10)
    refine go_aload_n (x := 82) dX12_qGoesOnTest_114 rfl ?_
    refine go_dup dX12_qGoesOnTest_115 rfl ?_
    refine go_getI' (v := (h1.1 82 108)) dX12_qGoesOnTest_116 f12_686 sh82 (fun _ _ => rfl) rfl ?_
    refine go_iconst (v := 1) dX12_qGoesOnTest_119 rfl ?_
    refine go_iadd dX12_qGoesOnTest_120 ?_
    refine go_putI dX12_qGoesOnTest_121 f12_686 sh82 rfl rfl ?_
    refine go_iconst (v := 1) dX12_qGoesOnTest_124 rfl ?_
    exact go_zret dX12_qGoesOnTest_125 rfl (by decide) vc rfl (Nat.le_refl _) (Nat.le_refl _)
  · replace vc := vc.2 q
    refine go_aload_n (x := 82) dX12_qGoesOnTest_96 rfl ?_
    refine gvV0 MX12_qDrops dX12_qGoesOnTest_97 lX12_698 kX12_qDrops vX12_qDrops sh82 (by decide) rfl (Nat.le_of_ble_eq_true rfl) vc ?_
    intro h2 vc
    obtain ⟨hR2, vc⟩ := vc
    replace hR := hR2.trans hR
    refine go_goto 87 dX12_qGoesOnTest_100 rfl ?_
    exact vc
set_option maxRecDepth 20000 in
theorem wX12_qGoesOnTest_137 {p : Program} {l : Launch} {e : Env} {s : State} {m : MethodId} {args : Array Value} {below : List Frame} {meth : Method} {c : Code} {G : gG} {d : Nat} {Q : Option Value → gH → Prop} {h : gH} {lk sp : Nat} {cd : Option Nat}  (hR : h.2.2 = gRF lk sp cd) (hlk : lk = 30 ∨ lk = 67) (hsp : sp = 30 ∨ sp = 67)  (vc : gC l G d MX12_qIsOn [.ref 82, .int 10] h (rI fun v1 h1 => h1.2.2 = (h).2.2 ∧ ((¬ v1 = 0 → gC l G d MX12_qDrops [.ref 82] h1 (rV fun h2 => h2.2.2 = (h1).2.2 ∧ gg p l e s m args below meth c G (d + 1) MX12_qGoesOnTest Q 137 [some (.ref 82)] [] h2)) ∧ (v1 = 0 → gC l G d MX12_qIsOn [.ref 82, .int 11] h1 (rI fun v3 h3 => h3.2.2 = (h1).2.2 ∧ ((v3 = 0 → (vp_in ((h3.1 82 108)) 1700 ∧ Q (some (.int 1)) (sI (sI h3 165 ((h3.1 82 108) : Int32).toNatClampNeg 11) 82 108 ((h3.1 82 108) + 1)))) ∧ (¬ v3 = 0 → gC l G d MX12_qDrops [.ref 82] h3 (rV fun h4 => h4.2.2 = (h3).2.2 ∧ gg p l e s m args below meth c G (d + 1) MX12_qGoesOnTest Q 137 [some (.ref 82)] [] h4)))))))) : gg p l e s m args below meth c G (d + 1) MX12_qGoesOnTest Q 137 [some (.ref 82)] [] h := by
  refine go_aload_n (x := 82) dX12_qGoesOnTest_137 rfl ?_
  refine go_bipush (v := 10) dX12_qGoesOnTest_138 rfl ?_
  refine gvI1 MX12_qIsOn dX12_qGoesOnTest_140 lX12_722 kX12_qIsOn vX12_qIsOn sh82 (by decide) rfl (Nat.le_of_ble_eq_true rfl) vc ?_
  intro v1 h1 vc
  obtain ⟨hR1, vc⟩ := vc
  replace hR := hR1.trans hR
  refine go_if_ne 155 dX12_qGoesOnTest_143 rfl (fun q => ?_) (fun q => ?_)
  · replace vc := vc.1 q
    refine go_aload_n (x := 82) dX12_qGoesOnTest_155 rfl ?_
    refine gvV0 MX12_qDrops dX12_qGoesOnTest_156 lX12_698 kX12_qDrops vX12_qDrops sh82 (by decide) rfl (Nat.le_of_ble_eq_true rfl) vc ?_
    intro h2 vc
    obtain ⟨hR2, vc⟩ := vc
    replace hR := hR2.trans hR
    refine go_goto 137 dX12_qGoesOnTest_159 rfl ?_
    exact vc
  · replace vc := vc.2 q
    refine go_aload_n (x := 82) dX12_qGoesOnTest_146 rfl ?_
    refine go_bipush (v := 11) dX12_qGoesOnTest_147 rfl ?_
    refine gvI1 MX12_qIsOn dX12_qGoesOnTest_149 lX12_722 kX12_qIsOn vX12_qIsOn sh82 (by decide) rfl (Nat.le_of_ble_eq_true rfl) vc ?_
    intro v3 h3 vc
    obtain ⟨hR3, vc⟩ := vc
    replace hR := hR3.trans hR
    refine go_if_eq 162 dX12_qGoesOnTest_152 rfl (fun q => ?_) (fun q => ?_)
    · replace vc := vc.1 q
      refine go_aload_n (x := 82) dX12_qGoesOnTest_162 rfl ?_
      refine go_getR (x := 165) dX12_qGoesOnTest_163 f12_266 sh82 (fun _ _ => rfl) (rf82_107 hR) ?_
      refine go_aload_n (x := 82) dX12_qGoesOnTest_166 rfl ?_
      refine go_getI' (v := (h3.1 82 108)) dX12_qGoesOnTest_167 f12_686 sh82 (fun _ _ => rfl) rfl ?_
      refine go_bipush (v := 11) dX12_qGoesOnTest_170 rfl ?_
      refine go_iast dX12_qGoesOnTest_172 sh165 vc.1 ?_
      have vc := vc.2
      show gg p l e s m args below meth c G (d + 1) MX12_qGoesOnTest Q 173 [some (.ref 82)] [] (sI h3 165 ((h3.1 82 108) : Int32).toNatClampNeg 11)
      refine go_aload_n (x := 82) dX12_qGoesOnTest_173 rfl ?_
      refine go_dup dX12_qGoesOnTest_174 rfl ?_
      refine go_getI' (v := (h3.1 82 108)) dX12_qGoesOnTest_175 f12_686 sh82 (fun _ _ => rfl) rfl ?_
      refine go_iconst (v := 1) dX12_qGoesOnTest_178 rfl ?_
      refine go_iadd dX12_qGoesOnTest_179 ?_
      refine go_putI dX12_qGoesOnTest_180 f12_686 sh82 rfl rfl ?_
      refine go_iconst (v := 1) dX12_qGoesOnTest_183 rfl ?_
      exact go_zret dX12_qGoesOnTest_184 rfl (by decide) vc rfl (Nat.le_refl _) (Nat.le_refl _)
    · replace vc := vc.2 q
      refine go_aload_n (x := 82) dX12_qGoesOnTest_155 rfl ?_
      refine gvV0 MX12_qDrops dX12_qGoesOnTest_156 lX12_698 kX12_qDrops vX12_qDrops sh82 (by decide) rfl (Nat.le_of_ble_eq_true rfl) vc ?_
      intro h4 vc
      obtain ⟨hR4, vc⟩ := vc
      replace hR := hR4.trans hR
      refine go_goto 137 dX12_qGoesOnTest_159 rfl ?_
      exact vc
set_option maxRecDepth 20000 in
theorem wX12_qClip_0 {p : Program} {l : Launch} {e : Env} {s : State} {m : MethodId} {args : Array Value} {below : List Frame} {meth : Method} {c : Code} {G : gG} {d : Nat} {Q : Option Value → gH → Prop} {h : gH} {lk sp : Nat} {cd : Option Nat} {a1 : Int64} (hR : h.2.2 = gRF lk sp cd) (hlk : lk = 30 ∨ lk = 67) (hsp : sp = 30 ∨ sp = 67)  (vc : (((lg_cmp a1 1000000) ≤ 0 → ((0 ≤ (lg_cmp a1 (-1000000)) → Q (some (.long a1)) h) ∧ (¬ 0 ≤ (lg_cmp a1 (-1000000)) → Q (some (.long (-1000000))) h))) ∧ (¬ (lg_cmp a1 1000000) ≤ 0 → Q (some (.long 1000000)) h))) : gg p l e s m args below meth c G d MX12_qClip Q 0 [some (.long a1), none] [] h := by
  refine go_lload_n (x := a1) dX12_qClip_0 rfl ?_
  refine go_ldc2 (v := 1000000) dX12_qClip_1 nX12_458 ?_
  refine go_lcmp dX12_qClip_4 ?_
  refine go_if_le 14 dX12_qClip_5 rfl (fun q => ?_) (fun q => ?_)
  · replace vc := vc.1 q
    refine go_lload_n (x := a1) dX12_qClip_14 rfl ?_
    refine go_ldc2 (v := (-1000000)) dX12_qClip_15 nX12_460 ?_
    refine go_lcmp dX12_qClip_18 ?_
    refine go_if_ge 28 dX12_qClip_19 rfl (fun q => ?_) (fun q => ?_)
    · replace vc := vc.1 q
      refine go_lload_n (x := a1) dX12_qClip_28 rfl ?_
      exact go_lret dX12_qClip_29 rfl vc rfl (Nat.le_refl _) (Nat.le_refl _)
    · replace vc := vc.2 q
      refine go_ldc2 (v := (-1000000)) dX12_qClip_22 nX12_460 ?_
      refine go_goto 29 dX12_qClip_25 rfl ?_
      exact go_lret dX12_qClip_29 rfl vc rfl (Nat.le_refl _) (Nat.le_refl _)
  · replace vc := vc.2 q
    refine go_ldc2 (v := 1000000) dX12_qClip_8 nX12_458 ?_
    refine go_goto 29 dX12_qClip_11 rfl ?_
    exact go_lret dX12_qClip_29 rfl vc rfl (Nat.le_refl _) (Nat.le_refl _)
set_option maxRecDepth 20000 in
theorem wX12_qFloor_0 {p : Program} {l : Launch} {e : Env} {s : State} {m : MethodId} {args : Array Value} {below : List Frame} {meth : Method} {c : Code} {G : gG} {d : Nat} {Q : Option Value → gH → Prop} {h : gH} {lk sp : Nat} {cd : Option Nat} {a1 : Int64} {a2 : Int64} (hR : h.2.2 = gRF lk sp cd) (hlk : lk = 30 ∨ lk = 67) (hsp : sp = 30 ∨ sp = 67)  (vc : ((¬ (lg_cmp a2 0) = 0 → (¬ a2 = 0 ∧ (¬ a2 = 0 ∧ (((lg_cmp (a1 - a1 / a2 * a2) 0) = 0 → Q (some (.long (a1 / a2))) h) ∧ (¬ (lg_cmp (a1 - a1 / a2 * a2) 0) = 0 → ((0 ≤ (lg_cmp a1 0) → ((0 ≤ (lg_cmp a2 0) → Q (some (.long (a1 / a2))) h) ∧ (¬ 0 ≤ (lg_cmp a2 0) → Q (some (.long ((a1 / a2) - 1))) h))) ∧ (¬ 0 ≤ (lg_cmp a1 0) → ((0 ≤ (lg_cmp a2 0) → Q (some (.long ((a1 / a2) - 1))) h) ∧ (¬ 0 ≤ (lg_cmp a2 0) → Q (some (.long (a1 / a2))) h))))))))) ∧ ((lg_cmp a2 0) = 0 → Q (some (.long 0)) h))) : gg p l e s m args below meth c G d MX12_qFloor Q 0 [some (.long a1), none, some (.long a2), none, none, none] [] h := by
  refine go_lload_n (x := a2) dX12_qFloor_0 rfl ?_
  refine go_lconst (v := 0) dX12_qFloor_1 rfl ?_
  refine go_lcmp dX12_qFloor_2 ?_
  refine go_if_ne 8 dX12_qFloor_3 rfl (fun q => ?_) (fun q => ?_)
  · replace vc := vc.1 q
    refine go_lload_n (x := a1) dX12_qFloor_8 rfl ?_
    refine go_lload_n (x := a2) dX12_qFloor_9 rfl ?_
    refine go_ldiv dX12_qFloor_10 vc.1 ?_
    have vc := vc.2
    refine go_lstore dX12_qFloor_11 (Nat.le_of_ble_eq_true rfl) ?_
    show gg p l e s m args below meth c G d MX12_qFloor Q 13 [some (.long a1), none, some (.long a2), none, some (.long (a1 / a2)), none] [] h
    refine go_lload_n (x := a1) dX12_qFloor_13 rfl ?_
    refine go_lload_n (x := a2) dX12_qFloor_14 rfl ?_
    refine go_lrem dX12_qFloor_15 vc.1 ?_
    have vc := vc.2
    refine go_lconst (v := 0) dX12_qFloor_16 rfl ?_
    refine go_lcmp dX12_qFloor_17 ?_
    refine go_if_eq 53 dX12_qFloor_18 rfl (fun q => ?_) (fun q => ?_)
    · replace vc := vc.1 q
      refine go_lload (x := (a1 / a2)) dX12_qFloor_53 rfl ?_
      exact go_lret dX12_qFloor_55 rfl vc rfl (Nat.le_refl _) (Nat.le_refl _)
    · replace vc := vc.2 q
      refine go_lload_n (x := a1) dX12_qFloor_21 rfl ?_
      refine go_lconst (v := 0) dX12_qFloor_22 rfl ?_
      refine go_lcmp dX12_qFloor_23 ?_
      refine go_if_ge 31 dX12_qFloor_24 rfl (fun q => ?_) (fun q => ?_)
      · replace vc := vc.1 q
        refine go_iconst (v := 0) dX12_qFloor_31 rfl ?_
        refine go_lload_n (x := a2) dX12_qFloor_32 rfl ?_
        refine go_lconst (v := 0) dX12_qFloor_33 rfl ?_
        refine go_lcmp dX12_qFloor_34 ?_
        refine go_if_ge 42 dX12_qFloor_35 rfl (fun q => ?_) (fun q => ?_)
        · replace vc := vc.1 q
          refine go_iconst (v := 0) dX12_qFloor_42 rfl ?_
          refine go_icmp_eq 53 dX12_qFloor_43 rfl (fun q => ?_) (fun q => absurd q (by decide))
          refine go_lload (x := (a1 / a2)) dX12_qFloor_53 rfl ?_
          exact go_lret dX12_qFloor_55 rfl vc rfl (Nat.le_refl _) (Nat.le_refl _)
        · replace vc := vc.2 q
          refine go_iconst (v := 1) dX12_qFloor_38 rfl ?_
          refine go_goto 43 dX12_qFloor_39 rfl ?_
          refine go_icmp_eq 53 dX12_qFloor_43 rfl (fun q => absurd q (by decide)) (fun q => ?_)
          refine go_lload (x := (a1 / a2)) dX12_qFloor_46 rfl ?_
          refine go_lconst (v := 1) dX12_qFloor_48 rfl ?_
          refine go_lsub dX12_qFloor_49 ?_
          refine go_goto 55 dX12_qFloor_50 rfl ?_
          exact go_lret dX12_qFloor_55 rfl vc rfl (Nat.le_refl _) (Nat.le_refl _)
      · replace vc := vc.2 q
        refine go_iconst (v := 1) dX12_qFloor_27 rfl ?_
        refine go_goto 32 dX12_qFloor_28 rfl ?_
        refine go_lload_n (x := a2) dX12_qFloor_32 rfl ?_
        refine go_lconst (v := 0) dX12_qFloor_33 rfl ?_
        refine go_lcmp dX12_qFloor_34 ?_
        refine go_if_ge 42 dX12_qFloor_35 rfl (fun q => ?_) (fun q => ?_)
        · replace vc := vc.1 q
          refine go_iconst (v := 0) dX12_qFloor_42 rfl ?_
          refine go_icmp_eq 53 dX12_qFloor_43 rfl (fun q => absurd q (by decide)) (fun q => ?_)
          refine go_lload (x := (a1 / a2)) dX12_qFloor_46 rfl ?_
          refine go_lconst (v := 1) dX12_qFloor_48 rfl ?_
          refine go_lsub dX12_qFloor_49 ?_
          refine go_goto 55 dX12_qFloor_50 rfl ?_
          exact go_lret dX12_qFloor_55 rfl vc rfl (Nat.le_refl _) (Nat.le_refl _)
        · replace vc := vc.2 q
          refine go_iconst (v := 1) dX12_qFloor_38 rfl ?_
          refine go_goto 43 dX12_qFloor_39 rfl ?_
          refine go_icmp_eq 53 dX12_qFloor_43 rfl (fun q => ?_) (fun q => absurd q (by decide))
          refine go_lload (x := (a1 / a2)) dX12_qFloor_53 rfl ?_
          exact go_lret dX12_qFloor_55 rfl vc rfl (Nat.le_refl _) (Nat.le_refl _)
  · replace vc := vc.2 q
    refine go_lconst (v := 0) dX12_qFloor_6 rfl ?_
    exact go_lret dX12_qFloor_7 rfl vc rfl (Nat.le_refl _) (Nat.le_refl _)
set_option maxRecDepth 20000 in
theorem wX12_qPuts_0 {p : Program} {l : Launch} {e : Env} {s : State} {m : MethodId} {args : Array Value} {below : List Frame} {meth : Method} {c : Code} {G : gG} {d : Nat} {Q : Option Value → gH → Prop} {h : gH} {lk sp : Nat} {cd : Option Nat} {a1 : Int64} (hR : h.2.2 = gRF lk sp cd) (hlk : lk = 30 ∨ lk = 67) (hsp : sp = 30 ∨ sp = 67)  (vc : (vp_in ((h.1 82 112)) 1700 ∧ Q none (sI (sL h 166 ((h.1 82 112) : Int32).toNatClampNeg a1) 82 112 ((h.1 82 112) + 1)))) : gg p l e s m args below meth c G d MX12_qPuts Q 0 [some (.ref 82), some (.long a1), none] [] h := by
  refine go_aload_n (x := 82) dX12_qPuts_0 rfl ?_
  refine go_getR (x := 166) dX12_qPuts_1 f12_269 sh82 (fun _ _ => rfl) (rf82_111 hR) ?_
  refine go_aload_n (x := 82) dX12_qPuts_4 rfl ?_
  refine go_getI' (v := (h.1 82 112)) dX12_qPuts_5 f12_746 sh82 (fun _ _ => rfl) rfl ?_
  refine go_lload_n (x := a1) dX12_qPuts_8 rfl ?_
  refine go_last dX12_qPuts_9 sh166 vc.1 ?_
  have vc := vc.2
  show gg p l e s m args below meth c G d MX12_qPuts Q 10 [some (.ref 82), some (.long a1), none] [] (sL h 166 ((h.1 82 112) : Int32).toNatClampNeg a1)
  refine go_aload_n (x := 82) dX12_qPuts_10 rfl ?_
  refine go_dup dX12_qPuts_11 rfl ?_
  refine go_getI' (v := (h.1 82 112)) dX12_qPuts_12 f12_746 sh82 (fun _ _ => rfl) rfl ?_
  refine go_iconst (v := 1) dX12_qPuts_15 rfl ?_
  refine go_iadd dX12_qPuts_16 ?_
  refine go_putI dX12_qPuts_17 f12_746 sh82 rfl rfl ?_
  exact go_vret dX12_qPuts_20 rfl vc rfl (Nat.le_refl _) (Nat.le_refl _)
set_option maxRecDepth 20000 in
theorem wX12_qJoins_0 {p : Program} {l : Launch} {e : Env} {s : State} {m : MethodId} {args : Array Value} {below : List Frame} {meth : Method} {c : Code} {G : gG} {d : Nat} {Q : Option Value → gH → Prop} {h : gH} {lk sp : Nat} {cd : Option Nat} {a1 : Int32} (hR : h.2.2 = gRF lk sp cd) (hlk : lk = 30 ∨ lk = 67) (hsp : sp = 30 ∨ sp = 67)  (vc : (vp_in (((h.1 82 112) - 1)) 1700 ∧ (vp_in (((h.1 82 112) - 2)) 1700 ∧ ((a1 = 1 → gC l G d MX12_qClip [.long ((h.2.1 166 (((h.1 82 112) - 2) : Int32).toNatClampNeg) + (h.2.1 166 (((h.1 82 112) - 1) : Int32).toNatClampNeg))] (sI h 82 112 ((h.1 82 112) - 2)) (rL fun v1 h1 => h1.2.2 = ((sI h 82 112 ((h.1 82 112) - 2))).2.2 ∧ gC l G d MX12_qPuts [.ref 82, .long v1] h1 (rV fun h2 => h2.2.2 = (h1).2.2 ∧ Q none h2))) ∧ (a1 = 2 → gC l G d MX12_qClip [.long ((h.2.1 166 (((h.1 82 112) - 2) : Int32).toNatClampNeg) - (h.2.1 166 (((h.1 82 112) - 1) : Int32).toNatClampNeg))] (sI h 82 112 ((h.1 82 112) - 2)) (rL fun v3 h3 => h3.2.2 = ((sI h 82 112 ((h.1 82 112) - 2))).2.2 ∧ gC l G d MX12_qPuts [.ref 82, .long v3] h3 (rV fun h4 => h4.2.2 = (h3).2.2 ∧ Q none h4))) ∧ (a1 = 3 → gC l G d MX12_qClip [.long ((h.2.1 166 (((h.1 82 112) - 2) : Int32).toNatClampNeg) * (h.2.1 166 (((h.1 82 112) - 1) : Int32).toNatClampNeg))] (sI h 82 112 ((h.1 82 112) - 2)) (rL fun v5 h5 => h5.2.2 = ((sI h 82 112 ((h.1 82 112) - 2))).2.2 ∧ gC l G d MX12_qPuts [.ref 82, .long v5] h5 (rV fun h6 => h6.2.2 = (h5).2.2 ∧ Q none h6))) ∧ (a1 = 4 → gC l G d MX12_qFloor [.long (h.2.1 166 (((h.1 82 112) - 2) : Int32).toNatClampNeg), .long (h.2.1 166 (((h.1 82 112) - 1) : Int32).toNatClampNeg)] (sI h 82 112 ((h.1 82 112) - 2)) (rL fun v7 h7 => h7.2.2 = ((sI h 82 112 ((h.1 82 112) - 2))).2.2 ∧ gC l G d MX12_qPuts [.ref 82, .long v7] h7 (rV fun h8 => h8.2.2 = (h7).2.2 ∧ Q none h8))) ∧ (a1 = 5 → ((0 ≤ (lg_cmp (h.2.1 166 (((h.1 82 112) - 2) : Int32).toNatClampNeg) (h.2.1 166 (((h.1 82 112) - 1) : Int32).toNatClampNeg)) → gC l G d MX12_qPuts [.ref 82, .long (h.2.1 166 (((h.1 82 112) - 1) : Int32).toNatClampNeg)] (sI h 82 112 ((h.1 82 112) - 2)) (rV fun h9 => h9.2.2 = ((sI h 82 112 ((h.1 82 112) - 2))).2.2 ∧ Q none h9)) ∧ (¬ 0 ≤ (lg_cmp (h.2.1 166 (((h.1 82 112) - 2) : Int32).toNatClampNeg) (h.2.1 166 (((h.1 82 112) - 1) : Int32).toNatClampNeg)) → gC l G d MX12_qPuts [.ref 82, .long (h.2.1 166 (((h.1 82 112) - 2) : Int32).toNatClampNeg)] (sI h 82 112 ((h.1 82 112) - 2)) (rV fun h10 => h10.2.2 = ((sI h 82 112 ((h.1 82 112) - 2))).2.2 ∧ Q none h10)))) ∧ (a1 = 6 → (((lg_cmp (h.2.1 166 (((h.1 82 112) - 2) : Int32).toNatClampNeg) (h.2.1 166 (((h.1 82 112) - 1) : Int32).toNatClampNeg)) ≤ 0 → gC l G d MX12_qPuts [.ref 82, .long (h.2.1 166 (((h.1 82 112) - 1) : Int32).toNatClampNeg)] (sI h 82 112 ((h.1 82 112) - 2)) (rV fun h11 => h11.2.2 = ((sI h 82 112 ((h.1 82 112) - 2))).2.2 ∧ Q none h11)) ∧ (¬ (lg_cmp (h.2.1 166 (((h.1 82 112) - 2) : Int32).toNatClampNeg) (h.2.1 166 (((h.1 82 112) - 1) : Int32).toNatClampNeg)) ≤ 0 → gC l G d MX12_qPuts [.ref 82, .long (h.2.1 166 (((h.1 82 112) - 2) : Int32).toNatClampNeg)] (sI h 82 112 ((h.1 82 112) - 2)) (rV fun h12 => h12.2.2 = ((sI h 82 112 ((h.1 82 112) - 2))).2.2 ∧ Q none h12)))) ∧ (a1 = 7 → ((0 ≤ (lg_cmp (h.2.1 166 (((h.1 82 112) - 2) : Int32).toNatClampNeg) (h.2.1 166 (((h.1 82 112) - 1) : Int32).toNatClampNeg)) → gC l G d MX12_qPuts [.ref 82, .long 0] (sI h 82 112 ((h.1 82 112) - 2)) (rV fun h13 => h13.2.2 = ((sI h 82 112 ((h.1 82 112) - 2))).2.2 ∧ Q none h13)) ∧ (¬ 0 ≤ (lg_cmp (h.2.1 166 (((h.1 82 112) - 2) : Int32).toNatClampNeg) (h.2.1 166 (((h.1 82 112) - 1) : Int32).toNatClampNeg)) → gC l G d MX12_qPuts [.ref 82, .long 1] (sI h 82 112 ((h.1 82 112) - 2)) (rV fun h14 => h14.2.2 = ((sI h 82 112 ((h.1 82 112) - 2))).2.2 ∧ Q none h14)))) ∧ (a1 = 8 → (((lg_cmp (h.2.1 166 (((h.1 82 112) - 2) : Int32).toNatClampNeg) (h.2.1 166 (((h.1 82 112) - 1) : Int32).toNatClampNeg)) ≤ 0 → gC l G d MX12_qPuts [.ref 82, .long 0] (sI h 82 112 ((h.1 82 112) - 2)) (rV fun h15 => h15.2.2 = ((sI h 82 112 ((h.1 82 112) - 2))).2.2 ∧ Q none h15)) ∧ (¬ (lg_cmp (h.2.1 166 (((h.1 82 112) - 2) : Int32).toNatClampNeg) (h.2.1 166 (((h.1 82 112) - 1) : Int32).toNatClampNeg)) ≤ 0 → gC l G d MX12_qPuts [.ref 82, .long 1] (sI h 82 112 ((h.1 82 112) - 2)) (rV fun h16 => h16.2.2 = ((sI h 82 112 ((h.1 82 112) - 2))).2.2 ∧ Q none h16)))) ∧ (a1 = 9 → ((¬ (lg_cmp (h.2.1 166 (((h.1 82 112) - 2) : Int32).toNatClampNeg) (h.2.1 166 (((h.1 82 112) - 1) : Int32).toNatClampNeg)) = 0 → gC l G d MX12_qPuts [.ref 82, .long 0] (sI h 82 112 ((h.1 82 112) - 2)) (rV fun h17 => h17.2.2 = ((sI h 82 112 ((h.1 82 112) - 2))).2.2 ∧ Q none h17)) ∧ ((lg_cmp (h.2.1 166 (((h.1 82 112) - 2) : Int32).toNatClampNeg) (h.2.1 166 (((h.1 82 112) - 1) : Int32).toNatClampNeg)) = 0 → gC l G d MX12_qPuts [.ref 82, .long 1] (sI h 82 112 ((h.1 82 112) - 2)) (rV fun h18 => h18.2.2 = ((sI h 82 112 ((h.1 82 112) - 2))).2.2 ∧ Q none h18)))) ∧ (a1 = 10 → gC l G d MX12_qPuts [.ref 82, .long ((h.2.1 166 (((h.1 82 112) - 2) : Int32).toNatClampNeg) * (h.2.1 166 (((h.1 82 112) - 1) : Int32).toNatClampNeg))] (sI h 82 112 ((h.1 82 112) - 2)) (rV fun h19 => h19.2.2 = ((sI h 82 112 ((h.1 82 112) - 2))).2.2 ∧ Q none h19)) ∧ (¬ a1 = 1 → ¬ a1 = 2 → ¬ a1 = 3 → ¬ a1 = 4 → ¬ a1 = 5 → ¬ a1 = 6 → ¬ a1 = 7 → ¬ a1 = 8 → ¬ a1 = 9 → ¬ a1 = 10 → (((lg_cmp ((h.2.1 166 (((h.1 82 112) - 2) : Int32).toNatClampNeg) + (h.2.1 166 (((h.1 82 112) - 1) : Int32).toNatClampNeg)) 0) ≤ 0 → gC l G d MX12_qPuts [.ref 82, .long 0] (sI h 82 112 ((h.1 82 112) - 2)) (rV fun h20 => h20.2.2 = ((sI h 82 112 ((h.1 82 112) - 2))).2.2 ∧ Q none h20)) ∧ (¬ (lg_cmp ((h.2.1 166 (((h.1 82 112) - 2) : Int32).toNatClampNeg) + (h.2.1 166 (((h.1 82 112) - 1) : Int32).toNatClampNeg)) 0) ≤ 0 → gC l G d MX12_qPuts [.ref 82, .long 1] (sI h 82 112 ((h.1 82 112) - 2)) (rV fun h21 => h21.2.2 = ((sI h 82 112 ((h.1 82 112) - 2))).2.2 ∧ Q none h21)))))))) : gg p l e s m args below meth c G (d + 1) MX12_qJoins Q 0 [some (.ref 82), some (.int a1), none, none, none, none] [] h := by
  refine go_aload_n (x := 82) dX12_qJoins_0 rfl ?_
  refine go_getR (x := 166) dX12_qJoins_1 f12_269 sh82 (fun _ _ => rfl) (rf82_111 hR) ?_
  refine go_aload_n (x := 82) dX12_qJoins_4 rfl ?_
  refine go_getI' (v := (h.1 82 112)) dX12_qJoins_5 f12_746 sh82 (fun _ _ => rfl) rfl ?_
  refine go_iconst (v := 1) dX12_qJoins_8 rfl ?_
  refine go_isub dX12_qJoins_9 ?_
  refine go_lald' (v := (h.2.1 166 (((h.1 82 112) - 1) : Int32).toNatClampNeg)) dX12_qJoins_10 sh166 vc.1 rfl ?_
  have vc := vc.2
  refine go_lstore_n dX12_qJoins_11 (Nat.le_of_ble_eq_true rfl) ?_
  show gg p l e s m args below meth c G (d + 1) MX12_qJoins Q 12 [some (.ref 82), some (.int a1), some (.long (h.2.1 166 (((h.1 82 112) - 1) : Int32).toNatClampNeg)), none, none, none] [] h
  refine go_aload_n (x := 82) dX12_qJoins_12 rfl ?_
  refine go_getR (x := 166) dX12_qJoins_13 f12_269 sh82 (fun _ _ => rfl) (rf82_111 hR) ?_
  refine go_aload_n (x := 82) dX12_qJoins_16 rfl ?_
  refine go_getI' (v := (h.1 82 112)) dX12_qJoins_17 f12_746 sh82 (fun _ _ => rfl) rfl ?_
  refine go_iconst (v := 2) dX12_qJoins_20 rfl ?_
  refine go_isub dX12_qJoins_21 ?_
  refine go_lald' (v := (h.2.1 166 (((h.1 82 112) - 2) : Int32).toNatClampNeg)) dX12_qJoins_22 sh166 vc.1 rfl ?_
  have vc := vc.2
  refine go_lstore dX12_qJoins_23 (Nat.le_of_ble_eq_true rfl) ?_
  show gg p l e s m args below meth c G (d + 1) MX12_qJoins Q 25 [some (.ref 82), some (.int a1), some (.long (h.2.1 166 (((h.1 82 112) - 1) : Int32).toNatClampNeg)), none, some (.long (h.2.1 166 (((h.1 82 112) - 2) : Int32).toNatClampNeg)), none] [] h
  refine go_aload_n (x := 82) dX12_qJoins_25 rfl ?_
  refine go_dup dX12_qJoins_26 rfl ?_
  refine go_getI' (v := (h.1 82 112)) dX12_qJoins_27 f12_746 sh82 (fun _ _ => rfl) rfl ?_
  refine go_iconst (v := 2) dX12_qJoins_30 rfl ?_
  refine go_isub dX12_qJoins_31 ?_
  refine go_putI dX12_qJoins_32 f12_746 sh82 rfl rfl ?_
  refine go_iload_n (x := a1) dX12_qJoins_35 rfl ?_
  by_cases q0 : a1 = 1
  · refine go_tableIn (off := 56) 92 dX12_qJoins_36 (by rw [q0]; decide) (by rw [q0]; decide) (by rw [q0]; rfl) rfl ?_
    replace vc := vc.1 q0
    refine go_aload_n (x := 82) dX12_qJoins_92 rfl ?_
    refine go_lload (x := (h.2.1 166 (((h.1 82 112) - 2) : Int32).toNatClampNeg)) dX12_qJoins_93 rfl ?_
    refine go_lload_n (x := (h.2.1 166 (((h.1 82 112) - 1) : Int32).toNatClampNeg)) dX12_qJoins_95 rfl ?_
    refine go_ladd dX12_qJoins_96 ?_
    refine gsL1 MX12_qClip dX12_qJoins_97 lX12_749 kX12_qClip sX12_qClip (Nat.le_of_ble_eq_true rfl) vc ?_
    intro v1 h1 vc
    obtain ⟨hR1, vc⟩ := vc
    replace hR := hR1.trans hR
    refine gvV1 MX12_qPuts dX12_qJoins_100 lX12_752 kX12_qPuts vX12_qPuts sh82 (by decide) rfl (Nat.le_of_ble_eq_true rfl) vc ?_
    intro h2 vc
    obtain ⟨hR2, vc⟩ := vc
    replace hR := hR2.trans hR
    refine go_goto 273 dX12_qJoins_103 rfl ?_
    exact go_vret dX12_qJoins_273 rfl vc rfl (Nat.le_refl _) (Nat.le_refl _)
  by_cases q1 : a1 = 2
  · refine go_tableIn (off := 70) 106 dX12_qJoins_36 (by rw [q1]; decide) (by rw [q1]; decide) (by rw [q1]; rfl) rfl ?_
    replace vc := vc.2.1 q1
    refine go_aload_n (x := 82) dX12_qJoins_106 rfl ?_
    refine go_lload (x := (h.2.1 166 (((h.1 82 112) - 2) : Int32).toNatClampNeg)) dX12_qJoins_107 rfl ?_
    refine go_lload_n (x := (h.2.1 166 (((h.1 82 112) - 1) : Int32).toNatClampNeg)) dX12_qJoins_109 rfl ?_
    refine go_lsub dX12_qJoins_110 ?_
    refine gsL1 MX12_qClip dX12_qJoins_111 lX12_749 kX12_qClip sX12_qClip (Nat.le_of_ble_eq_true rfl) vc ?_
    intro v3 h3 vc
    obtain ⟨hR3, vc⟩ := vc
    replace hR := hR3.trans hR
    refine gvV1 MX12_qPuts dX12_qJoins_114 lX12_752 kX12_qPuts vX12_qPuts sh82 (by decide) rfl (Nat.le_of_ble_eq_true rfl) vc ?_
    intro h4 vc
    obtain ⟨hR4, vc⟩ := vc
    replace hR := hR4.trans hR
    refine go_goto 273 dX12_qJoins_117 rfl ?_
    exact go_vret dX12_qJoins_273 rfl vc rfl (Nat.le_refl _) (Nat.le_refl _)
  by_cases q2 : a1 = 3
  · refine go_tableIn (off := 84) 120 dX12_qJoins_36 (by rw [q2]; decide) (by rw [q2]; decide) (by rw [q2]; rfl) rfl ?_
    replace vc := vc.2.2.1 q2
    refine go_aload_n (x := 82) dX12_qJoins_120 rfl ?_
    refine go_lload (x := (h.2.1 166 (((h.1 82 112) - 2) : Int32).toNatClampNeg)) dX12_qJoins_121 rfl ?_
    refine go_lload_n (x := (h.2.1 166 (((h.1 82 112) - 1) : Int32).toNatClampNeg)) dX12_qJoins_123 rfl ?_
    refine go_lmul dX12_qJoins_124 ?_
    refine gsL1 MX12_qClip dX12_qJoins_125 lX12_749 kX12_qClip sX12_qClip (Nat.le_of_ble_eq_true rfl) vc ?_
    intro v5 h5 vc
    obtain ⟨hR5, vc⟩ := vc
    replace hR := hR5.trans hR
    refine gvV1 MX12_qPuts dX12_qJoins_128 lX12_752 kX12_qPuts vX12_qPuts sh82 (by decide) rfl (Nat.le_of_ble_eq_true rfl) vc ?_
    intro h6 vc
    obtain ⟨hR6, vc⟩ := vc
    replace hR := hR6.trans hR
    refine go_goto 273 dX12_qJoins_131 rfl ?_
    exact go_vret dX12_qJoins_273 rfl vc rfl (Nat.le_refl _) (Nat.le_refl _)
  by_cases q3 : a1 = 4
  · refine go_tableIn (off := 98) 134 dX12_qJoins_36 (by rw [q3]; decide) (by rw [q3]; decide) (by rw [q3]; rfl) rfl ?_
    replace vc := vc.2.2.2.1 q3
    refine go_aload_n (x := 82) dX12_qJoins_134 rfl ?_
    refine go_lload (x := (h.2.1 166 (((h.1 82 112) - 2) : Int32).toNatClampNeg)) dX12_qJoins_135 rfl ?_
    refine go_lload_n (x := (h.2.1 166 (((h.1 82 112) - 1) : Int32).toNatClampNeg)) dX12_qJoins_137 rfl ?_
    refine gsL2 MX12_qFloor dX12_qJoins_138 lX12_755 kX12_qFloor sX12_qFloor (Nat.le_of_ble_eq_true rfl) vc ?_
    intro v7 h7 vc
    obtain ⟨hR7, vc⟩ := vc
    replace hR := hR7.trans hR
    refine gvV1 MX12_qPuts dX12_qJoins_141 lX12_752 kX12_qPuts vX12_qPuts sh82 (by decide) rfl (Nat.le_of_ble_eq_true rfl) vc ?_
    intro h8 vc
    obtain ⟨hR8, vc⟩ := vc
    replace hR := hR8.trans hR
    refine go_goto 273 dX12_qJoins_144 rfl ?_
    exact go_vret dX12_qJoins_273 rfl vc rfl (Nat.le_refl _) (Nat.le_refl _)
  by_cases q4 : a1 = 5
  · refine go_tableIn (off := 111) 147 dX12_qJoins_36 (by rw [q4]; decide) (by rw [q4]; decide) (by rw [q4]; rfl) rfl ?_
    replace vc := vc.2.2.2.2.1 q4
    refine go_aload_n (x := 82) dX12_qJoins_147 rfl ?_
    refine go_lload (x := (h.2.1 166 (((h.1 82 112) - 2) : Int32).toNatClampNeg)) dX12_qJoins_148 rfl ?_
    refine go_lload_n (x := (h.2.1 166 (((h.1 82 112) - 1) : Int32).toNatClampNeg)) dX12_qJoins_150 rfl ?_
    refine go_lcmp dX12_qJoins_151 ?_
    refine go_if_ge 160 dX12_qJoins_152 rfl (fun q => ?_) (fun q => ?_)
    · replace vc := vc.1 q
      refine go_lload_n (x := (h.2.1 166 (((h.1 82 112) - 1) : Int32).toNatClampNeg)) dX12_qJoins_160 rfl ?_
      refine gvV1 MX12_qPuts dX12_qJoins_161 lX12_752 kX12_qPuts vX12_qPuts sh82 (by decide) rfl (Nat.le_of_ble_eq_true rfl) vc ?_
      intro h9 vc
      obtain ⟨hR9, vc⟩ := vc
      replace hR := hR9.trans hR
      refine go_goto 273 dX12_qJoins_164 rfl ?_
      exact go_vret dX12_qJoins_273 rfl vc rfl (Nat.le_refl _) (Nat.le_refl _)
    · replace vc := vc.2 q
      refine go_lload (x := (h.2.1 166 (((h.1 82 112) - 2) : Int32).toNatClampNeg)) dX12_qJoins_155 rfl ?_
      refine go_goto 161 dX12_qJoins_157 rfl ?_
      refine gvV1 MX12_qPuts dX12_qJoins_161 lX12_752 kX12_qPuts vX12_qPuts sh82 (by decide) rfl (Nat.le_of_ble_eq_true rfl) vc ?_
      intro h10 vc
      obtain ⟨hR10, vc⟩ := vc
      replace hR := hR10.trans hR
      refine go_goto 273 dX12_qJoins_164 rfl ?_
      exact go_vret dX12_qJoins_273 rfl vc rfl (Nat.le_refl _) (Nat.le_refl _)
  by_cases q5 : a1 = 6
  · refine go_tableIn (off := 131) 167 dX12_qJoins_36 (by rw [q5]; decide) (by rw [q5]; decide) (by rw [q5]; rfl) rfl ?_
    replace vc := vc.2.2.2.2.2.1 q5
    refine go_aload_n (x := 82) dX12_qJoins_167 rfl ?_
    refine go_lload (x := (h.2.1 166 (((h.1 82 112) - 2) : Int32).toNatClampNeg)) dX12_qJoins_168 rfl ?_
    refine go_lload_n (x := (h.2.1 166 (((h.1 82 112) - 1) : Int32).toNatClampNeg)) dX12_qJoins_170 rfl ?_
    refine go_lcmp dX12_qJoins_171 ?_
    refine go_if_le 180 dX12_qJoins_172 rfl (fun q => ?_) (fun q => ?_)
    · replace vc := vc.1 q
      refine go_lload_n (x := (h.2.1 166 (((h.1 82 112) - 1) : Int32).toNatClampNeg)) dX12_qJoins_180 rfl ?_
      refine gvV1 MX12_qPuts dX12_qJoins_181 lX12_752 kX12_qPuts vX12_qPuts sh82 (by decide) rfl (Nat.le_of_ble_eq_true rfl) vc ?_
      intro h11 vc
      obtain ⟨hR11, vc⟩ := vc
      replace hR := hR11.trans hR
      refine go_goto 273 dX12_qJoins_184 rfl ?_
      exact go_vret dX12_qJoins_273 rfl vc rfl (Nat.le_refl _) (Nat.le_refl _)
    · replace vc := vc.2 q
      refine go_lload (x := (h.2.1 166 (((h.1 82 112) - 2) : Int32).toNatClampNeg)) dX12_qJoins_175 rfl ?_
      refine go_goto 181 dX12_qJoins_177 rfl ?_
      refine gvV1 MX12_qPuts dX12_qJoins_181 lX12_752 kX12_qPuts vX12_qPuts sh82 (by decide) rfl (Nat.le_of_ble_eq_true rfl) vc ?_
      intro h12 vc
      obtain ⟨hR12, vc⟩ := vc
      replace hR := hR12.trans hR
      refine go_goto 273 dX12_qJoins_184 rfl ?_
      exact go_vret dX12_qJoins_273 rfl vc rfl (Nat.le_refl _) (Nat.le_refl _)
  by_cases q6 : a1 = 7
  · refine go_tableIn (off := 151) 187 dX12_qJoins_36 (by rw [q6]; decide) (by rw [q6]; decide) (by rw [q6]; rfl) rfl ?_
    replace vc := vc.2.2.2.2.2.2.1 q6
    refine go_aload_n (x := 82) dX12_qJoins_187 rfl ?_
    refine go_lload (x := (h.2.1 166 (((h.1 82 112) - 2) : Int32).toNatClampNeg)) dX12_qJoins_188 rfl ?_
    refine go_lload_n (x := (h.2.1 166 (((h.1 82 112) - 1) : Int32).toNatClampNeg)) dX12_qJoins_190 rfl ?_
    refine go_lcmp dX12_qJoins_191 ?_
    refine go_if_ge 199 dX12_qJoins_192 rfl (fun q => ?_) (fun q => ?_)
    · replace vc := vc.1 q
      refine go_lconst (v := 0) dX12_qJoins_199 rfl ?_
      refine gvV1 MX12_qPuts dX12_qJoins_200 lX12_752 kX12_qPuts vX12_qPuts sh82 (by decide) rfl (Nat.le_of_ble_eq_true rfl) vc ?_
      intro h13 vc
      obtain ⟨hR13, vc⟩ := vc
      replace hR := hR13.trans hR
      refine go_goto 273 dX12_qJoins_203 rfl ?_
      exact go_vret dX12_qJoins_273 rfl vc rfl (Nat.le_refl _) (Nat.le_refl _)
    · replace vc := vc.2 q
      refine go_lconst (v := 1) dX12_qJoins_195 rfl ?_
      refine go_goto 200 dX12_qJoins_196 rfl ?_
      refine gvV1 MX12_qPuts dX12_qJoins_200 lX12_752 kX12_qPuts vX12_qPuts sh82 (by decide) rfl (Nat.le_of_ble_eq_true rfl) vc ?_
      intro h14 vc
      obtain ⟨hR14, vc⟩ := vc
      replace hR := hR14.trans hR
      refine go_goto 273 dX12_qJoins_203 rfl ?_
      exact go_vret dX12_qJoins_273 rfl vc rfl (Nat.le_refl _) (Nat.le_refl _)
  by_cases q7 : a1 = 8
  · refine go_tableIn (off := 170) 206 dX12_qJoins_36 (by rw [q7]; decide) (by rw [q7]; decide) (by rw [q7]; rfl) rfl ?_
    replace vc := vc.2.2.2.2.2.2.2.1 q7
    refine go_aload_n (x := 82) dX12_qJoins_206 rfl ?_
    refine go_lload (x := (h.2.1 166 (((h.1 82 112) - 2) : Int32).toNatClampNeg)) dX12_qJoins_207 rfl ?_
    refine go_lload_n (x := (h.2.1 166 (((h.1 82 112) - 1) : Int32).toNatClampNeg)) dX12_qJoins_209 rfl ?_
    refine go_lcmp dX12_qJoins_210 ?_
    refine go_if_le 218 dX12_qJoins_211 rfl (fun q => ?_) (fun q => ?_)
    · replace vc := vc.1 q
      refine go_lconst (v := 0) dX12_qJoins_218 rfl ?_
      refine gvV1 MX12_qPuts dX12_qJoins_219 lX12_752 kX12_qPuts vX12_qPuts sh82 (by decide) rfl (Nat.le_of_ble_eq_true rfl) vc ?_
      intro h15 vc
      obtain ⟨hR15, vc⟩ := vc
      replace hR := hR15.trans hR
      refine go_goto 273 dX12_qJoins_222 rfl ?_
      exact go_vret dX12_qJoins_273 rfl vc rfl (Nat.le_refl _) (Nat.le_refl _)
    · replace vc := vc.2 q
      refine go_lconst (v := 1) dX12_qJoins_214 rfl ?_
      refine go_goto 219 dX12_qJoins_215 rfl ?_
      refine gvV1 MX12_qPuts dX12_qJoins_219 lX12_752 kX12_qPuts vX12_qPuts sh82 (by decide) rfl (Nat.le_of_ble_eq_true rfl) vc ?_
      intro h16 vc
      obtain ⟨hR16, vc⟩ := vc
      replace hR := hR16.trans hR
      refine go_goto 273 dX12_qJoins_222 rfl ?_
      exact go_vret dX12_qJoins_273 rfl vc rfl (Nat.le_refl _) (Nat.le_refl _)
  by_cases q8 : a1 = 9
  · refine go_tableIn (off := 189) 225 dX12_qJoins_36 (by rw [q8]; decide) (by rw [q8]; decide) (by rw [q8]; rfl) rfl ?_
    replace vc := vc.2.2.2.2.2.2.2.2.1 q8
    refine go_aload_n (x := 82) dX12_qJoins_225 rfl ?_
    refine go_lload (x := (h.2.1 166 (((h.1 82 112) - 2) : Int32).toNatClampNeg)) dX12_qJoins_226 rfl ?_
    refine go_lload_n (x := (h.2.1 166 (((h.1 82 112) - 1) : Int32).toNatClampNeg)) dX12_qJoins_228 rfl ?_
    refine go_lcmp dX12_qJoins_229 ?_
    refine go_if_ne 237 dX12_qJoins_230 rfl (fun q => ?_) (fun q => ?_)
    · replace vc := vc.1 q
      refine go_lconst (v := 0) dX12_qJoins_237 rfl ?_
      refine gvV1 MX12_qPuts dX12_qJoins_238 lX12_752 kX12_qPuts vX12_qPuts sh82 (by decide) rfl (Nat.le_of_ble_eq_true rfl) vc ?_
      intro h17 vc
      obtain ⟨hR17, vc⟩ := vc
      replace hR := hR17.trans hR
      refine go_goto 273 dX12_qJoins_241 rfl ?_
      exact go_vret dX12_qJoins_273 rfl vc rfl (Nat.le_refl _) (Nat.le_refl _)
    · replace vc := vc.2 q
      refine go_lconst (v := 1) dX12_qJoins_233 rfl ?_
      refine go_goto 238 dX12_qJoins_234 rfl ?_
      refine gvV1 MX12_qPuts dX12_qJoins_238 lX12_752 kX12_qPuts vX12_qPuts sh82 (by decide) rfl (Nat.le_of_ble_eq_true rfl) vc ?_
      intro h18 vc
      obtain ⟨hR18, vc⟩ := vc
      replace hR := hR18.trans hR
      refine go_goto 273 dX12_qJoins_241 rfl ?_
      exact go_vret dX12_qJoins_273 rfl vc rfl (Nat.le_refl _) (Nat.le_refl _)
  by_cases q9 : a1 = 10
  · refine go_tableIn (off := 208) 244 dX12_qJoins_36 (by rw [q9]; decide) (by rw [q9]; decide) (by rw [q9]; rfl) rfl ?_
    replace vc := vc.2.2.2.2.2.2.2.2.2.1 q9
    refine go_aload_n (x := 82) dX12_qJoins_244 rfl ?_
    refine go_lload (x := (h.2.1 166 (((h.1 82 112) - 2) : Int32).toNatClampNeg)) dX12_qJoins_245 rfl ?_
    refine go_lload_n (x := (h.2.1 166 (((h.1 82 112) - 1) : Int32).toNatClampNeg)) dX12_qJoins_247 rfl ?_
    refine go_lmul dX12_qJoins_248 ?_
    refine gvV1 MX12_qPuts dX12_qJoins_249 lX12_752 kX12_qPuts vX12_qPuts sh82 (by decide) rfl (Nat.le_of_ble_eq_true rfl) vc ?_
    intro h19 vc
    obtain ⟨hR19, vc⟩ := vc
    replace hR := hR19.trans hR
    refine go_goto 273 dX12_qJoins_252 rfl ?_
    exact go_vret dX12_qJoins_273 rfl vc rfl (Nat.le_refl _) (Nat.le_refl _)
  replace vc := vc.2.2.2.2.2.2.2.2.2.2 q0 q1 q2 q3 q4 q5 q6 q7 q8 q9
  refine go_tableOut 255 dX12_qJoins_36 ?_ rfl ?_
  · have e0 : ¬ (a1).toInt = 1 := lv_neT q0 rfl; have e1 : ¬ (a1).toInt = 2 := lv_neT q1 rfl; have e2 : ¬ (a1).toInt = 3 := lv_neT q2 rfl; have e3 : ¬ (a1).toInt = 4 := lv_neT q3 rfl; have e4 : ¬ (a1).toInt = 5 := lv_neT q4 rfl; have e5 : ¬ (a1).toInt = 6 := lv_neT q5 rfl; have e6 : ¬ (a1).toInt = 7 := lv_neT q6 rfl; have e7 : ¬ (a1).toInt = 8 := lv_neT q7 rfl; have e8 : ¬ (a1).toInt = 9 := lv_neT q8 rfl; have e9 : ¬ (a1).toInt = 10 := lv_neT q9 rfl
    omega
  refine go_aload_n (x := 82) dX12_qJoins_255 rfl ?_
  refine go_lload (x := (h.2.1 166 (((h.1 82 112) - 2) : Int32).toNatClampNeg)) dX12_qJoins_256 rfl ?_
  refine go_lload_n (x := (h.2.1 166 (((h.1 82 112) - 1) : Int32).toNatClampNeg)) dX12_qJoins_258 rfl ?_
  refine go_ladd dX12_qJoins_259 ?_
  refine go_lconst (v := 0) dX12_qJoins_260 rfl ?_
  refine go_lcmp dX12_qJoins_261 ?_
  refine go_if_le 269 dX12_qJoins_262 rfl (fun q => ?_) (fun q => ?_)
  · replace vc := vc.1 q
    refine go_lconst (v := 0) dX12_qJoins_269 rfl ?_
    refine gvV1 MX12_qPuts dX12_qJoins_270 lX12_752 kX12_qPuts vX12_qPuts sh82 (by decide) rfl (Nat.le_of_ble_eq_true rfl) vc ?_
    intro h20 vc
    obtain ⟨hR20, vc⟩ := vc
    replace hR := hR20.trans hR
    exact go_vret dX12_qJoins_273 rfl vc rfl (Nat.le_refl _) (Nat.le_refl _)
  · replace vc := vc.2 q
    refine go_lconst (v := 1) dX12_qJoins_265 rfl ?_
    refine go_goto 270 dX12_qJoins_266 rfl ?_
    refine gvV1 MX12_qPuts dX12_qJoins_270 lX12_752 kX12_qPuts vX12_qPuts sh82 (by decide) rfl (Nat.le_of_ble_eq_true rfl) vc ?_
    intro h21 vc
    obtain ⟨hR21, vc⟩ := vc
    replace hR := hR21.trans hR
    exact go_vret dX12_qJoins_273 rfl vc rfl (Nat.le_refl _) (Nat.le_refl _)
set_option maxRecDepth 20000 in
theorem wX12_qPartOf_0 {p : Program} {l : Launch} {e : Env} {s : State} {m : MethodId} {args : Array Value} {below : List Frame} {meth : Method} {c : Code} {G : gG} {d : Nat} {Q : Option Value → gH → Prop} {h : gH} {lk sp : Nat} {cd : Option Nat} {a1 : Int32} {a2 : Int32} (hR : h.2.2 = gRF lk sp cd) (hlk : lk = 30 ∨ lk = 67) (hsp : sp = 30 ∨ sp = 67)  (vc : ((a1 = 0 → Q (some (.long (a2 : Int32).toInt64)) h) ∧ (a1 = 1 → gC l G d MX12_columns [.ref 82] h (rI fun v1 h1 => h1.2.2 = (h).2.2 ∧ (¬ v1 = 0 ∧ Q (some (.long ((a2 - a2 / v1 * v1) : Int32).toInt64)) h1))) ∧ (a1 = 2 → gC l G d MX12_columns [.ref 82] h (rI fun v2 h2 => h2.2.2 = (h).2.2 ∧ (¬ v2 = 0 ∧ Q (some (.long ((a2 / v2) : Int32).toInt64)) h2))) ∧ (a1 = 3 → gC l G d MX12_isLand [.ref 82, .int a2] h (rI fun v3 h3 => h3.2.2 = (h).2.2 ∧ ((v3 = 0 → gC l G d MX12_depthOf [.ref 82, .int a2] h3 (rI fun v4 h4 => h4.2.2 = (h3).2.2 ∧ Q (some (.long (v4 : Int32).toInt64)) h4)) ∧ (¬ v3 = 0 → Q (some (.long 0)) h3)))) ∧ (a1 = 4 → gC l G d MX12_isWreck [.ref 82, .int a2] h (rI fun v5 h5 => h5.2.2 = (h).2.2 ∧ ((v5 = 0 → Q (some (.long 0)) h5) ∧ (¬ v5 = 0 → Q (some (.long 1)) h5)))) ∧ (a1 = 5 → gC l G d MX12_homeOf [.ref 82, .int a2] h (rI fun v6 h6 => h6.2.2 = (h).2.2 ∧ Q (some (.long (v6 : Int32).toInt64)) h6)) ∧ (a1 = 6 → gC l G d MX12_isLand [.ref 82, .int a2] h (rI fun v7 h7 => h7.2.2 = (h).2.2 ∧ ((v7 = 0 → gC l G d MX12_dreadOf [.ref 82, .int (h7.1 82 83), .int a2, .int (-1)] h7 (rI fun v8 h8 => h8.2.2 = (h7).2.2 ∧ Q (some (.long (v8 : Int32).toInt64)) h8)) ∧ (¬ v7 = 0 → Q (some (.long 99)) h7)))) ∧ (¬ a1 = 0 → ¬ a1 = 1 → ¬ a1 = 2 → ¬ a1 = 3 → ¬ a1 = 4 → ¬ a1 = 5 → ¬ a1 = 6 → gC l G d MX12_trustOf [.ref 82, .int (h.1 82 83)] h (rI fun v9 h9 => h9.2.2 = (h).2.2 ∧ Q (some (.long (v9 : Int32).toInt64)) h9)))) : gg p l e s m args below meth c G (d + 1) MX12_qPartOf Q 0 [some (.ref 82), some (.int a1), some (.int a2)] [] h := by
  refine go_iload_n (x := a1) dX12_qPartOf_0 rfl ?_
  by_cases q0 : a1 = 0
  · refine go_tableIn (off := 43) 44 dX12_qPartOf_1 (by rw [q0]; decide) (by rw [q0]; decide) (by rw [q0]; rfl) rfl ?_
    replace vc := vc.1 q0
    refine go_iload_n (x := a2) dX12_qPartOf_44 rfl ?_
    refine go_i2l dX12_qPartOf_45 ?_
    exact go_lret dX12_qPartOf_46 rfl vc rfl (Nat.le_refl _) (Nat.le_refl _)
  by_cases q1 : a1 = 1
  · refine go_tableIn (off := 46) 47 dX12_qPartOf_1 (by rw [q1]; decide) (by rw [q1]; decide) (by rw [q1]; rfl) rfl ?_
    replace vc := vc.2.1 q1
    refine go_iload_n (x := a2) dX12_qPartOf_47 rfl ?_
    refine go_aload_n (x := 82) dX12_qPartOf_48 rfl ?_
    refine gvI0 MX12_columns dX12_qPartOf_49 lX12_477 kX12_columns vX12_columns sh82 (by decide) rfl (Nat.le_of_ble_eq_true rfl) vc ?_
    intro v1 h1 vc
    obtain ⟨hR1, vc⟩ := vc
    replace hR := hR1.trans hR
    refine go_irem dX12_qPartOf_52 vc.1 ?_
    have vc := vc.2
    refine go_i2l dX12_qPartOf_53 ?_
    exact go_lret dX12_qPartOf_54 rfl vc rfl (Nat.le_refl _) (Nat.le_refl _)
  by_cases q2 : a1 = 2
  · refine go_tableIn (off := 54) 55 dX12_qPartOf_1 (by rw [q2]; decide) (by rw [q2]; decide) (by rw [q2]; rfl) rfl ?_
    replace vc := vc.2.2.1 q2
    refine go_iload_n (x := a2) dX12_qPartOf_55 rfl ?_
    refine go_aload_n (x := 82) dX12_qPartOf_56 rfl ?_
    refine gvI0 MX12_columns dX12_qPartOf_57 lX12_477 kX12_columns vX12_columns sh82 (by decide) rfl (Nat.le_of_ble_eq_true rfl) vc ?_
    intro v2 h2 vc
    obtain ⟨hR2, vc⟩ := vc
    replace hR := hR2.trans hR
    refine go_idiv dX12_qPartOf_60 vc.1 ?_
    have vc := vc.2
    refine go_i2l dX12_qPartOf_61 ?_
    exact go_lret dX12_qPartOf_62 rfl vc rfl (Nat.le_refl _) (Nat.le_refl _)
  by_cases q3 : a1 = 3
  · refine go_tableIn (off := 62) 63 dX12_qPartOf_1 (by rw [q3]; decide) (by rw [q3]; decide) (by rw [q3]; rfl) rfl ?_
    replace vc := vc.2.2.2.1 q3
    refine go_aload_n (x := 82) dX12_qPartOf_63 rfl ?_
    refine go_iload_n (x := a2) dX12_qPartOf_64 rfl ?_
    refine gvI1 MX12_isLand dX12_qPartOf_65 lX12_492 kX12_isLand vX12_isLand sh82 (by decide) rfl (Nat.le_of_ble_eq_true rfl) vc ?_
    intro v3 h3 vc
    obtain ⟨hR3, vc⟩ := vc
    replace hR := hR3.trans hR
    refine go_if_eq 75 dX12_qPartOf_68 rfl (fun q => ?_) (fun q => ?_)
    · replace vc := vc.1 q
      refine go_aload_n (x := 82) dX12_qPartOf_75 rfl ?_
      refine go_iload_n (x := a2) dX12_qPartOf_76 rfl ?_
      refine gvI1 MX12_depthOf dX12_qPartOf_77 lX12_507 kX12_depthOf vX12_depthOf sh82 (by decide) rfl (Nat.le_of_ble_eq_true rfl) vc ?_
      intro v4 h4 vc
      obtain ⟨hR4, vc⟩ := vc
      replace hR := hR4.trans hR
      refine go_i2l dX12_qPartOf_80 ?_
      exact go_lret dX12_qPartOf_81 rfl vc rfl (Nat.le_refl _) (Nat.le_refl _)
    · replace vc := vc.2 q
      refine go_lconst (v := 0) dX12_qPartOf_71 rfl ?_
      refine go_goto 81 dX12_qPartOf_72 rfl ?_
      exact go_lret dX12_qPartOf_81 rfl vc rfl (Nat.le_refl _) (Nat.le_refl _)
  by_cases q4 : a1 = 4
  · refine go_tableIn (off := 81) 82 dX12_qPartOf_1 (by rw [q4]; decide) (by rw [q4]; decide) (by rw [q4]; rfl) rfl ?_
    replace vc := vc.2.2.2.2.1 q4
    refine go_aload_n (x := 82) dX12_qPartOf_82 rfl ?_
    refine go_iload_n (x := a2) dX12_qPartOf_83 rfl ?_
    refine gvI1 MX12_isWreck dX12_qPartOf_84 lX12_495 kX12_isWreck vX12_isWreck sh82 (by decide) rfl (Nat.le_of_ble_eq_true rfl) vc ?_
    intro v5 h5 vc
    obtain ⟨hR5, vc⟩ := vc
    replace hR := hR5.trans hR
    refine go_if_eq 94 dX12_qPartOf_87 rfl (fun q => ?_) (fun q => ?_)
    · replace vc := vc.1 q
      refine go_lconst (v := 0) dX12_qPartOf_94 rfl ?_
      exact go_lret dX12_qPartOf_95 rfl vc rfl (Nat.le_refl _) (Nat.le_refl _)
    · replace vc := vc.2 q
      refine go_lconst (v := 1) dX12_qPartOf_90 rfl ?_
      refine go_goto 95 dX12_qPartOf_91 rfl ?_
      exact go_lret dX12_qPartOf_95 rfl vc rfl (Nat.le_refl _) (Nat.le_refl _)
  by_cases q5 : a1 = 5
  · refine go_tableIn (off := 95) 96 dX12_qPartOf_1 (by rw [q5]; decide) (by rw [q5]; decide) (by rw [q5]; rfl) rfl ?_
    replace vc := vc.2.2.2.2.2.1 q5
    refine go_aload_n (x := 82) dX12_qPartOf_96 rfl ?_
    refine go_iload_n (x := a2) dX12_qPartOf_97 rfl ?_
    refine gvI1 MX12_homeOf dX12_qPartOf_98 lX12_510 kX12_homeOf vX12_homeOf sh82 (by decide) rfl (Nat.le_of_ble_eq_true rfl) vc ?_
    intro v6 h6 vc
    obtain ⟨hR6, vc⟩ := vc
    replace hR := hR6.trans hR
    refine go_i2l dX12_qPartOf_101 ?_
    exact go_lret dX12_qPartOf_102 rfl vc rfl (Nat.le_refl _) (Nat.le_refl _)
  by_cases q6 : a1 = 6
  · refine go_tableIn (off := 102) 103 dX12_qPartOf_1 (by rw [q6]; decide) (by rw [q6]; decide) (by rw [q6]; rfl) rfl ?_
    replace vc := vc.2.2.2.2.2.2.1 q6
    refine go_aload_n (x := 82) dX12_qPartOf_103 rfl ?_
    refine go_iload_n (x := a2) dX12_qPartOf_104 rfl ?_
    refine gvI1 MX12_isLand dX12_qPartOf_105 lX12_492 kX12_isLand vX12_isLand sh82 (by decide) rfl (Nat.le_of_ble_eq_true rfl) vc ?_
    intro v7 h7 vc
    obtain ⟨hR7, vc⟩ := vc
    replace hR := hR7.trans hR
    refine go_if_eq 117 dX12_qPartOf_108 rfl (fun q => ?_) (fun q => ?_)
    · replace vc := vc.1 q
      refine go_aload_n (x := 82) dX12_qPartOf_117 rfl ?_
      refine go_aload_n (x := 82) dX12_qPartOf_118 rfl ?_
      refine go_getI' (v := (h7.1 82 83)) dX12_qPartOf_119 f12_758 sh82 (fun _ _ => rfl) rfl ?_
      refine go_iload_n (x := a2) dX12_qPartOf_122 rfl ?_
      refine go_iconst (v := (-1)) dX12_qPartOf_123 rfl ?_
      refine gvI3 MX12_dreadOf dX12_qPartOf_124 lX12_541 kX12_dreadOf vX12_dreadOf sh82 (by decide) rfl (Nat.le_of_ble_eq_true rfl) vc ?_
      intro v8 h8 vc
      obtain ⟨hR8, vc⟩ := vc
      replace hR := hR8.trans hR
      refine go_i2l dX12_qPartOf_127 ?_
      exact go_lret dX12_qPartOf_128 rfl vc rfl (Nat.le_refl _) (Nat.le_refl _)
    · replace vc := vc.2 q
      refine go_ldc2 (v := 99) dX12_qPartOf_111 nX12_532 ?_
      refine go_goto 128 dX12_qPartOf_114 rfl ?_
      exact go_lret dX12_qPartOf_128 rfl vc rfl (Nat.le_refl _) (Nat.le_refl _)
  replace vc := vc.2.2.2.2.2.2.2 q0 q1 q2 q3 q4 q5 q6
  refine go_tableOut 129 dX12_qPartOf_1 ?_ rfl ?_
  · have e0 : ¬ (a1).toInt = 0 := lv_neT q0 rfl; have e1 : ¬ (a1).toInt = 1 := lv_neT q1 rfl; have e2 : ¬ (a1).toInt = 2 := lv_neT q2 rfl; have e3 : ¬ (a1).toInt = 3 := lv_neT q3 rfl; have e4 : ¬ (a1).toInt = 4 := lv_neT q4 rfl; have e5 : ¬ (a1).toInt = 5 := lv_neT q5 rfl; have e6 : ¬ (a1).toInt = 6 := lv_neT q6 rfl
    omega
  refine go_aload_n (x := 82) dX12_qPartOf_129 rfl ?_
  refine go_aload_n (x := 82) dX12_qPartOf_130 rfl ?_
  refine go_getI' (v := (h.1 82 83)) dX12_qPartOf_131 f12_758 sh82 (fun _ _ => rfl) rfl ?_
  refine gvI1 MX12_trustOf dX12_qPartOf_134 lX12_522 kX12_trustOf vX12_trustOf sh82 (by decide) rfl (Nat.le_of_ble_eq_true rfl) vc ?_
  intro v9 h9 vc
  obtain ⟨hR9, vc⟩ := vc
  replace hR := hR9.trans hR
  refine go_i2l dX12_qPartOf_137 ?_
  exact go_lret dX12_qPartOf_138 rfl vc rfl (Nat.le_refl _) (Nat.le_refl _)
set_option maxRecDepth 20000 in
theorem wX12_qOf_0 {p : Program} {l : Launch} {e : Env} {s : State} {m : MethodId} {args : Array Value} {below : List Frame} {meth : Method} {c : Code} {G : gG} {d : Nat} {Q : Option Value → gH → Prop} {h : gH} {lk sp : Nat} {cd : Option Nat} {a1 : Int32} {a2 : Int64} {a3 : Int32} (hR : h.2.2 = gRF lk sp cd) (hlk : lk = 30 ∨ lk = 67) (hsp : sp = 30 ∨ sp = 67)  (vc : gC l G d MX12_cellMany [.ref 82] h (rI fun v1 h1 => h1.2.2 = (h).2.2 ∧ gC l G d MX12_isIn [.long a2, .long 0, .long ((v1 - 1) : Int32).toInt64] h1 (rI fun v2 h2 => h2.2.2 = (h1).2.2 ∧ ((v2 = 0 → Q (some (.long 0)) h2) ∧ (¬ v2 = 0 → gC l G d MX12_boatsIn [.ref 82, .int (a2 : Int64).toInt32] h2 (rI fun v3 h3 => h3.2.2 = (h2).2.2 ∧ gC l G d MX12_bits [.int v3] h3 (rI fun v4 h4 => h4.2.2 = (h3).2.2 ∧ Q (some (.long (v4 : Int32).toInt64)) h4))))))) : gg p l e s m args below meth c G (d + 1) MX12_qOf Q 0 [some (.ref 82), some (.int a1), some (.long a2), none, some (.int a3)] [] h := by
  refine go_iload_n (x := a1) dX12_qOf_0 rfl ?_
  replace vc := vc 
  refine go_lookup 12 dX12_qOf_1 (by decide) rfl rfl ?_
  refine go_lload_n (x := a2) dX12_qOf_12 rfl ?_
  refine go_lconst (v := 0) dX12_qOf_13 rfl ?_
  refine go_aload_n (x := 82) dX12_qOf_14 rfl ?_
  refine gvI0 MX12_cellMany dX12_qOf_15 lX12_480 kX12_cellMany vX12_cellMany sh82 (by decide) rfl (Nat.le_of_ble_eq_true rfl) vc ?_
  intro v1 h1 vc
  obtain ⟨hR1, vc⟩ := vc
  replace hR := hR1.trans hR
  refine go_iconst (v := 1) dX12_qOf_18 rfl ?_
  refine go_isub dX12_qOf_19 ?_
  refine go_i2l dX12_qOf_20 ?_
  refine gsI3 MX12_isIn dX12_qOf_21 lX12_321 kX12_isIn sX12_isIn (Nat.le_of_ble_eq_true rfl) vc ?_
  intro v2 h2 vc
  obtain ⟨hR2, vc⟩ := vc
  replace hR := hR2.trans hR
  refine go_if_eq 40 dX12_qOf_24 rfl (fun q => ?_) (fun q => ?_)
  · replace vc := vc.1 q
    refine go_lconst (v := 0) dX12_qOf_40 rfl ?_
    exact go_lret dX12_qOf_41 rfl vc rfl (Nat.le_refl _) (Nat.le_refl _)
  · replace vc := vc.2 q
    refine go_aload_n (x := 82) dX12_qOf_27 rfl ?_
    refine go_lload_n (x := a2) dX12_qOf_28 rfl ?_
    refine go_l2i dX12_qOf_29 ?_
    refine gvI1 MX12_boatsIn dX12_qOf_30 lX12_569 kX12_boatsIn vX12_boatsIn sh82 (by decide) rfl (Nat.le_of_ble_eq_true rfl) vc ?_
    intro v3 h3 vc
    obtain ⟨hR3, vc⟩ := vc
    replace hR := hR3.trans hR
    refine gsI1 MX12_bits dX12_qOf_33 lX12_618 kX12_bits sX12_bits (Nat.le_of_ble_eq_true rfl) vc ?_
    intro v4 h4 vc
    obtain ⟨hR4, vc⟩ := vc
    replace hR := hR4.trans hR
    refine go_i2l dX12_qOf_36 ?_
    refine go_goto 41 dX12_qOf_37 rfl ?_
    exact go_lret dX12_qOf_41 rfl vc rfl (Nat.le_refl _) (Nat.le_refl _)
set_option maxRecDepth 20000 in
theorem wX12_qTold_0 {p : Program} {l : Launch} {e : Env} {s : State} {m : MethodId} {args : Array Value} {below : List Frame} {meth : Method} {c : Code} {G : gG} {d : Nat} {Q : Option Value → gH → Prop} {h : gH} {lk sp : Nat} {cd : Option Nat} {a1 : Int32} (hR : h.2.2 = gRF lk sp cd) (hlk : lk = 30 ∨ lk = 67) (hsp : sp = 30 ∨ sp = 67)  (vc : gg p l e s m args below meth c G (d + 1) MX12_qTold Q 7 [some (.ref 82), some (.int a1), some (.int 0), none] [] (sI h 82 112 0)) : gg p l e s m args below meth c G (d + 1) MX12_qTold Q 0 [some (.ref 82), some (.int a1), none, none] [] h := by
  refine go_aload_n (x := 82) dX12_qTold_0 rfl ?_
  refine go_iconst (v := 0) dX12_qTold_1 rfl ?_
  refine go_putI dX12_qTold_2 f12_746 sh82 rfl rfl ?_
  refine go_iconst (v := 0) dX12_qTold_5 rfl ?_
  refine go_istore_n dX12_qTold_6 (Nat.le_of_ble_eq_true rfl) ?_
  show gg p l e s m args below meth c G (d + 1) MX12_qTold Q 7 [some (.ref 82), some (.int a1), some (.int 0), none] [] (sI h 82 112 0)
  exact vc
set_option maxRecDepth 20000 in
theorem wX12_qTold_7 {p : Program} {l : Launch} {e : Env} {s : State} {m : MethodId} {args : Array Value} {below : List Frame} {meth : Method} {c : Code} {G : gG} {d : Nat} {Q : Option Value → gH → Prop} {h : gH} {lk sp : Nat} {cd : Option Nat} {x1 : Int32} {x2 : Int32} (hR : h.2.2 = gRF lk sp cd) (hlk : lk = 30 ∨ lk = 67) (hsp : sp = 30 ∨ sp = 67)  (vc : (((h.1 82 106) ≤ x2 → Q (some (.long (h.2.1 166 0))) h) ∧ (¬ (h.1 82 106) ≤ x2 → (vp_in x2 1700 ∧ (((h.1 164 x2.toNatClampNeg) < 1000 → (((h.1 164 x2.toNatClampNeg) < 60 → (((h.1 164 x2.toNatClampNeg) < 40 → ((¬ (h.1 164 x2.toNatClampNeg) = 13 → ((¬ (h.1 164 x2.toNatClampNeg) = 12 → gC l G d MX12_qJoins [.ref 82, .int (h.1 164 x2.toNatClampNeg)] h (rV fun h1 => h1.2.2 = (h).2.2 ∧ gg p l e s m args below meth c G (d + 1) MX12_qTold Q 7 [some (.ref 82), some (.int x1), some (.int (x2 + 1)), none] [] h1)) ∧ ((h.1 164 x2.toNatClampNeg) = 12 → (vp_in (((h.1 82 112) - 1)) 1700 ∧ (vp_in (((h.1 82 112) - 1)) 1700 ∧ gg p l e s m args below meth c G (d + 1) MX12_qTold Q 7 [some (.ref 82), some (.int x1), some (.int (x2 + 1)), none] [] (sL h 166 (((h.1 82 112) - 1) : Int32).toNatClampNeg (1 - (h.2.1 166 (((h.1 82 112) - 1) : Int32).toNatClampNeg)))))))) ∧ ((h.1 164 x2.toNatClampNeg) = 13 → gC l G d MX12_qPuts [.ref 82, .long 1] h (rV fun h2 => h2.2.2 = (h).2.2 ∧ gg p l e s m args below meth c G (d + 1) MX12_qTold Q 7 [some (.ref 82), some (.int x1), some (.int (x2 + 1)), none] [] h2)))) ∧ (¬ (h.1 164 x2.toNatClampNeg) < 40 → gC l G d MX12_qPartOf [.ref 82, .int ((h.1 164 x2.toNatClampNeg) - 40), .int x1] h (rL fun v3 h3 => h3.2.2 = (h).2.2 ∧ gC l G d MX12_qClip [.long v3] h3 (rL fun v4 h4 => h4.2.2 = (h3).2.2 ∧ gC l G d MX12_qPuts [.ref 82, .long v4] h4 (rV fun h5 => h5.2.2 = (h4).2.2 ∧ gg p l e s m args below meth c G (d + 1) MX12_qTold Q 7 [some (.ref 82), some (.int x1), some (.int (x2 + 1)), none] [] h5)))))) ∧ (¬ (h.1 164 x2.toNatClampNeg) < 60 → (vp_in (((h.1 82 112) - 1)) 1700 ∧ gC l G d MX12_qOf [.ref 82, .int ((h.1 164 x2.toNatClampNeg) - 60), .long (h.2.1 166 (((h.1 82 112) - 1) : Int32).toNatClampNeg), .int x1] h (rL fun v6 h6 => h6.2.2 = (h).2.2 ∧ gC l G d MX12_qClip [.long v6] h6 (rL fun v7 h7 => h7.2.2 = (h6).2.2 ∧ (vp_in (((h.1 82 112) - 1)) 1700 ∧ gg p l e s m args below meth c G (d + 1) MX12_qTold Q 7 [some (.ref 82), some (.int x1), some (.int (x2 + 1)), none] [] (sL h7 166 (((h.1 82 112) - 1) : Int32).toNatClampNeg v7)))))))) ∧ (¬ (h.1 164 x2.toNatClampNeg) < 1000 → gC l G d MX12_qPuts [.ref 82, .long (((h.1 164 x2.toNatClampNeg) - 1000) : Int32).toInt64] h (rV fun h8 => h8.2.2 = (h).2.2 ∧ gg p l e s m args below meth c G (d + 1) MX12_qTold Q 7 [some (.ref 82), some (.int x1), some (.int (x2 + 1)), none] [] h8))))))) : gg p l e s m args below meth c G (d + 1) MX12_qTold Q 7 [some (.ref 82), some (.int x1), some (.int x2), none] [] h := by
  refine go_iload_n (x := x2) dX12_qTold_7 rfl ?_
  refine go_aload_n (x := 82) dX12_qTold_8 rfl ?_
  refine go_getI' (v := (h.1 82 106)) dX12_qTold_9 f12_680 sh82 (fun _ _ => rfl) rfl ?_
  refine go_icmp_ge 168 dX12_qTold_12 rfl (fun q => ?_) (fun q => ?_)
  · replace vc := vc.1 q
    refine go_aload_n (x := 82) dX12_qTold_168 rfl ?_
    refine go_getR (x := 166) dX12_qTold_169 f12_269 sh82 (fun _ _ => rfl) (rf82_111 hR) ?_
    refine go_iconst (v := 0) dX12_qTold_172 rfl ?_
    refine go_lald' (v := (h.2.1 166 0)) dX12_qTold_173 sh166 (by unfold vp_in; decide) rfl ?_
    exact go_lret dX12_qTold_174 rfl vc rfl (Nat.le_refl _) (Nat.le_refl _)
  · replace vc := vc.2 q
    refine go_aload_n (x := 82) dX12_qTold_15 rfl ?_
    refine go_getR (x := 164) dX12_qTold_16 f12_263 sh82 (fun _ _ => rfl) (rf82_105 hR) ?_
    refine go_iload_n (x := x2) dX12_qTold_19 rfl ?_
    refine go_iald' (v := (h.1 164 x2.toNatClampNeg)) dX12_qTold_20 sh164 vc.1 rfl ?_
    have vc := vc.2
    refine go_istore_n dX12_qTold_21 (Nat.le_of_ble_eq_true rfl) ?_
    show gg p l e s m args below meth c G (d + 1) MX12_qTold Q 22 [some (.ref 82), some (.int x1), some (.int x2), some (.int (h.1 164 x2.toNatClampNeg))] [] h
    refine go_iload_n (x := (h.1 164 x2.toNatClampNeg)) dX12_qTold_22 rfl ?_
    refine go_sipush (v := 1000) dX12_qTold_23 rfl ?_
    refine go_icmp_lt 42 dX12_qTold_26 rfl (fun q => ?_) (fun q => ?_)
    · replace vc := vc.1 q
      refine go_iload_n (x := (h.1 164 x2.toNatClampNeg)) dX12_qTold_42 rfl ?_
      refine go_bipush (v := 60) dX12_qTold_43 rfl ?_
      refine go_icmp_lt 85 dX12_qTold_45 rfl (fun q => ?_) (fun q => ?_)
      · replace vc := vc.1 q
        refine go_iload_n (x := (h.1 164 x2.toNatClampNeg)) dX12_qTold_85 rfl ?_
        refine go_bipush (v := 40) dX12_qTold_86 rfl ?_
        refine go_icmp_lt 110 dX12_qTold_88 rfl (fun q => ?_) (fun q => ?_)
        · replace vc := vc.1 q
          refine go_iload_n (x := (h.1 164 x2.toNatClampNeg)) dX12_qTold_110 rfl ?_
          refine go_bipush (v := 13) dX12_qTold_111 rfl ?_
          refine go_icmp_ne 124 dX12_qTold_113 rfl (fun q => ?_) (fun q => ?_)
          · replace vc := vc.1 q
            refine go_iload_n (x := (h.1 164 x2.toNatClampNeg)) dX12_qTold_124 rfl ?_
            refine go_bipush (v := 12) dX12_qTold_125 rfl ?_
            refine go_icmp_ne 157 dX12_qTold_127 rfl (fun q => ?_) (fun q => ?_)
            · replace vc := vc.1 q
              refine go_aload_n (x := 82) dX12_qTold_157 rfl ?_
              refine go_iload_n (x := (h.1 164 x2.toNatClampNeg)) dX12_qTold_158 rfl ?_
              refine gvV1 MX12_qJoins dX12_qTold_159 lX12_769 kX12_qJoins vX12_qJoins sh82 (by decide) rfl (Nat.le_of_ble_eq_true rfl) vc ?_
              intro h1 vc
              obtain ⟨hR1, vc⟩ := vc
              replace hR := hR1.trans hR
              refine go_iinc (x := x2) dX12_qTold_162 rfl ?_
              show gg p l e s m args below meth c G (d + 1) MX12_qTold Q 165 [some (.ref 82), some (.int x1), some (.int (x2 + 1)), some (.int (h.1 164 x2.toNatClampNeg))] [] h1
              refine go_goto 7 dX12_qTold_165 rfl ?_
              refine go_weak (ls' := [some (.ref 82), some (.int x1), some (.int (x2 + 1)), none]) ?_ vc
              exact (⟨rfl, ⟨rfl, ⟨rfl, trivial⟩⟩⟩)
            · replace vc := vc.2 q
              refine go_aload_n (x := 82) dX12_qTold_130 rfl ?_
              refine go_getR (x := 166) dX12_qTold_131 f12_269 sh82 (fun _ _ => rfl) (rf82_111 hR) ?_
              refine go_aload_n (x := 82) dX12_qTold_134 rfl ?_
              refine go_getI' (v := (h.1 82 112)) dX12_qTold_135 f12_746 sh82 (fun _ _ => rfl) rfl ?_
              refine go_iconst (v := 1) dX12_qTold_138 rfl ?_
              refine go_isub dX12_qTold_139 ?_
              refine go_lconst (v := 1) dX12_qTold_140 rfl ?_
              refine go_aload_n (x := 82) dX12_qTold_141 rfl ?_
              refine go_getR (x := 166) dX12_qTold_142 f12_269 sh82 (fun _ _ => rfl) (rf82_111 hR) ?_
              refine go_aload_n (x := 82) dX12_qTold_145 rfl ?_
              refine go_getI' (v := (h.1 82 112)) dX12_qTold_146 f12_746 sh82 (fun _ _ => rfl) rfl ?_
              refine go_iconst (v := 1) dX12_qTold_149 rfl ?_
              refine go_isub dX12_qTold_150 ?_
              refine go_lald' (v := (h.2.1 166 (((h.1 82 112) - 1) : Int32).toNatClampNeg)) dX12_qTold_151 sh166 vc.1 rfl ?_
              have vc := vc.2
              refine go_lsub dX12_qTold_152 ?_
              refine go_last dX12_qTold_153 sh166 vc.1 ?_
              have vc := vc.2
              show gg p l e s m args below meth c G (d + 1) MX12_qTold Q 154 [some (.ref 82), some (.int x1), some (.int x2), some (.int (h.1 164 x2.toNatClampNeg))] [] (sL h 166 (((h.1 82 112) - 1) : Int32).toNatClampNeg (1 - (h.2.1 166 (((h.1 82 112) - 1) : Int32).toNatClampNeg)))
              refine go_goto 162 dX12_qTold_154 rfl ?_
              refine go_iinc (x := x2) dX12_qTold_162 rfl ?_
              show gg p l e s m args below meth c G (d + 1) MX12_qTold Q 165 [some (.ref 82), some (.int x1), some (.int (x2 + 1)), some (.int (h.1 164 x2.toNatClampNeg))] [] (sL h 166 (((h.1 82 112) - 1) : Int32).toNatClampNeg (1 - (h.2.1 166 (((h.1 82 112) - 1) : Int32).toNatClampNeg)))
              refine go_goto 7 dX12_qTold_165 rfl ?_
              refine go_weak (ls' := [some (.ref 82), some (.int x1), some (.int (x2 + 1)), none]) ?_ vc
              exact (⟨rfl, ⟨rfl, ⟨rfl, trivial⟩⟩⟩)
          · replace vc := vc.2 q
            refine go_aload_n (x := 82) dX12_qTold_116 rfl ?_
            refine go_lconst (v := 1) dX12_qTold_117 rfl ?_
            refine gvV1 MX12_qPuts dX12_qTold_118 lX12_752 kX12_qPuts vX12_qPuts sh82 (by decide) rfl (Nat.le_of_ble_eq_true rfl) vc ?_
            intro h2 vc
            obtain ⟨hR2, vc⟩ := vc
            replace hR := hR2.trans hR
            refine go_goto 162 dX12_qTold_121 rfl ?_
            refine go_iinc (x := x2) dX12_qTold_162 rfl ?_
            show gg p l e s m args below meth c G (d + 1) MX12_qTold Q 165 [some (.ref 82), some (.int x1), some (.int (x2 + 1)), some (.int (h.1 164 x2.toNatClampNeg))] [] h2
            refine go_goto 7 dX12_qTold_165 rfl ?_
            refine go_weak (ls' := [some (.ref 82), some (.int x1), some (.int (x2 + 1)), none]) ?_ vc
            exact (⟨rfl, ⟨rfl, ⟨rfl, trivial⟩⟩⟩)
        · replace vc := vc.2 q
          refine go_aload_n (x := 82) dX12_qTold_91 rfl ?_
          refine go_aload_n (x := 82) dX12_qTold_92 rfl ?_
          refine go_iload_n (x := (h.1 164 x2.toNatClampNeg)) dX12_qTold_93 rfl ?_
          refine go_bipush (v := 40) dX12_qTold_94 rfl ?_
          refine go_isub dX12_qTold_96 ?_
          refine go_iload_n (x := x1) dX12_qTold_97 rfl ?_
          refine gvL2 MX12_qPartOf dX12_qTold_98 lX12_765 kX12_qPartOf vX12_qPartOf sh82 (by decide) rfl (Nat.le_of_ble_eq_true rfl) vc ?_
          intro v3 h3 vc
          obtain ⟨hR3, vc⟩ := vc
          replace hR := hR3.trans hR
          refine gsL1 MX12_qClip dX12_qTold_101 lX12_749 kX12_qClip sX12_qClip (Nat.le_of_ble_eq_true rfl) vc ?_
          intro v4 h4 vc
          obtain ⟨hR4, vc⟩ := vc
          replace hR := hR4.trans hR
          refine gvV1 MX12_qPuts dX12_qTold_104 lX12_752 kX12_qPuts vX12_qPuts sh82 (by decide) rfl (Nat.le_of_ble_eq_true rfl) vc ?_
          intro h5 vc
          obtain ⟨hR5, vc⟩ := vc
          replace hR := hR5.trans hR
          refine go_goto 162 dX12_qTold_107 rfl ?_
          refine go_iinc (x := x2) dX12_qTold_162 rfl ?_
          show gg p l e s m args below meth c G (d + 1) MX12_qTold Q 165 [some (.ref 82), some (.int x1), some (.int (x2 + 1)), some (.int (h.1 164 x2.toNatClampNeg))] [] h5
          refine go_goto 7 dX12_qTold_165 rfl ?_
          refine go_weak (ls' := [some (.ref 82), some (.int x1), some (.int (x2 + 1)), none]) ?_ vc
          exact (⟨rfl, ⟨rfl, ⟨rfl, trivial⟩⟩⟩)
      · replace vc := vc.2 q
        refine go_aload_n (x := 82) dX12_qTold_48 rfl ?_
        refine go_getR (x := 166) dX12_qTold_49 f12_269 sh82 (fun _ _ => rfl) (rf82_111 hR) ?_
        refine go_aload_n (x := 82) dX12_qTold_52 rfl ?_
        refine go_getI' (v := (h.1 82 112)) dX12_qTold_53 f12_746 sh82 (fun _ _ => rfl) rfl ?_
        refine go_iconst (v := 1) dX12_qTold_56 rfl ?_
        refine go_isub dX12_qTold_57 ?_
        refine go_aload_n (x := 82) dX12_qTold_58 rfl ?_
        refine go_iload_n (x := (h.1 164 x2.toNatClampNeg)) dX12_qTold_59 rfl ?_
        refine go_bipush (v := 60) dX12_qTold_60 rfl ?_
        refine go_isub dX12_qTold_62 ?_
        refine go_aload_n (x := 82) dX12_qTold_63 rfl ?_
        refine go_getR (x := 166) dX12_qTold_64 f12_269 sh82 (fun _ _ => rfl) (rf82_111 hR) ?_
        refine go_aload_n (x := 82) dX12_qTold_67 rfl ?_
        refine go_getI' (v := (h.1 82 112)) dX12_qTold_68 f12_746 sh82 (fun _ _ => rfl) rfl ?_
        refine go_iconst (v := 1) dX12_qTold_71 rfl ?_
        refine go_isub dX12_qTold_72 ?_
        refine go_lald' (v := (h.2.1 166 (((h.1 82 112) - 1) : Int32).toNatClampNeg)) dX12_qTold_73 sh166 vc.1 rfl ?_
        have vc := vc.2
        refine go_iload_n (x := x1) dX12_qTold_74 rfl ?_
        refine gvL3 MX12_qOf dX12_qTold_75 lX12_761 kX12_qOf vX12_qOf sh82 (by decide) rfl (Nat.le_of_ble_eq_true rfl) vc ?_
        intro v6 h6 vc
        obtain ⟨hR6, vc⟩ := vc
        replace hR := hR6.trans hR
        refine gsL1 MX12_qClip dX12_qTold_78 lX12_749 kX12_qClip sX12_qClip (Nat.le_of_ble_eq_true rfl) vc ?_
        intro v7 h7 vc
        obtain ⟨hR7, vc⟩ := vc
        replace hR := hR7.trans hR
        refine go_last dX12_qTold_81 sh166 vc.1 ?_
        have vc := vc.2
        show gg p l e s m args below meth c G (d + 1) MX12_qTold Q 82 [some (.ref 82), some (.int x1), some (.int x2), some (.int (h.1 164 x2.toNatClampNeg))] [] (sL h7 166 (((h.1 82 112) - 1) : Int32).toNatClampNeg v7)
        refine go_goto 162 dX12_qTold_82 rfl ?_
        refine go_iinc (x := x2) dX12_qTold_162 rfl ?_
        show gg p l e s m args below meth c G (d + 1) MX12_qTold Q 165 [some (.ref 82), some (.int x1), some (.int (x2 + 1)), some (.int (h.1 164 x2.toNatClampNeg))] [] (sL h7 166 (((h.1 82 112) - 1) : Int32).toNatClampNeg v7)
        refine go_goto 7 dX12_qTold_165 rfl ?_
        refine go_weak (ls' := [some (.ref 82), some (.int x1), some (.int (x2 + 1)), none]) ?_ vc
        exact (⟨rfl, ⟨rfl, ⟨rfl, trivial⟩⟩⟩)
    · replace vc := vc.2 q
      refine go_aload_n (x := 82) dX12_qTold_29 rfl ?_
      refine go_iload_n (x := (h.1 164 x2.toNatClampNeg)) dX12_qTold_30 rfl ?_
      refine go_sipush (v := 1000) dX12_qTold_31 rfl ?_
      refine go_isub dX12_qTold_34 ?_
      refine go_i2l dX12_qTold_35 ?_
      refine gvV1 MX12_qPuts dX12_qTold_36 lX12_752 kX12_qPuts vX12_qPuts sh82 (by decide) rfl (Nat.le_of_ble_eq_true rfl) vc ?_
      intro h8 vc
      obtain ⟨hR8, vc⟩ := vc
      replace hR := hR8.trans hR
      refine go_goto 162 dX12_qTold_39 rfl ?_
      refine go_iinc (x := x2) dX12_qTold_162 rfl ?_
      show gg p l e s m args below meth c G (d + 1) MX12_qTold Q 165 [some (.ref 82), some (.int x1), some (.int (x2 + 1)), some (.int (h.1 164 x2.toNatClampNeg))] [] h8
      refine go_goto 7 dX12_qTold_165 rfl ?_
      refine go_weak (ls' := [some (.ref 82), some (.int x1), some (.int (x2 + 1)), none]) ?_ vc
      exact (⟨rfl, ⟨rfl, ⟨rfl, trivial⟩⟩⟩)
set_option maxRecDepth 20000 in
theorem wX12_qKind_0 {p : Program} {l : Launch} {e : Env} {s : State} {m : MethodId} {args : Array Value} {below : List Frame} {meth : Method} {c : Code} {G : gG} {d : Nat} {Q : Option Value → gH → Prop} {h : gH} {lk sp : Nat} {cd : Option Nat}  (hR : h.2.2 = gRF lk sp cd) (hlk : lk = 30 ∨ lk = 67) (hsp : sp = 30 ∨ sp = 67)  (vc : gC l G d MX12_takes [.ref 82, .ref 143] h (rI fun v1 h1 => h1.2.2 = (h).2.2 ∧ ((v1 = 0 → gC l G d MX12_takes [.ref 82, .ref 144] h1 (rI fun v2 h2 => h2.2.2 = (h1).2.2 ∧ ((v2 = 0 → gC l G d MX12_takes [.ref 82, .ref 145] h2 (rI fun v3 h3 => h3.2.2 = (h2).2.2 ∧ ((v3 = 0 → gC l G d MX12_takes [.ref 82, .ref 146] h3 (rI fun v4 h4 => h4.2.2 = (h3).2.2 ∧ ((v4 = 0 → gC l G d MX12_takes [.ref 82, .ref 147] h4 (rI fun v5 h5 => h5.2.2 = (h4).2.2 ∧ ((v5 = 0 → gC l G d MX12_asks [.ref 82, .ref 148] h5 (rV fun h6 => h6.2.2 = (h5).2.2 ∧ Q (some (.int 5)) h6)) ∧ (¬ v5 = 0 → Q (some (.int 4)) h5)))) ∧ (¬ v4 = 0 → Q (some (.int 3)) h4)))) ∧ (¬ v3 = 0 → Q (some (.int 2)) h3)))) ∧ (¬ v2 = 0 → Q (some (.int 1)) h2)))) ∧ (¬ v1 = 0 → Q (some (.int 0)) h1)))) : gg p l e s m args below meth c G (d + 1) MX12_qKind Q 0 [some (.ref 82), none] [] h := by
  refine go_aload_n (x := 82) dX12_qKind_0 rfl ?_
  refine go_aload_n (x := 82) dX12_qKind_1 rfl ?_
  refine go_getR (x := 143) dX12_qKind_2 f12_200 sh82 (fun _ _ => rfl) (rf82_84 hR) ?_
  refine gvI1 MX12_takes dX12_qKind_5 lX12_305 kX12_takes vX12_takes sh82 (by decide) rfl (Nat.le_of_ble_eq_true rfl) vc ?_
  intro v1 h1 vc
  obtain ⟨hR1, vc⟩ := vc
  replace hR := hR1.trans hR
  refine go_if_eq 15 dX12_qKind_8 rfl (fun q => ?_) (fun q => ?_)
  · replace vc := vc.1 q
    refine go_aload_n (x := 82) dX12_qKind_15 rfl ?_
    refine go_aload_n (x := 82) dX12_qKind_16 rfl ?_
    refine go_getR (x := 144) dX12_qKind_17 f12_203 sh82 (fun _ _ => rfl) (rf82_85 hR) ?_
    refine gvI1 MX12_takes dX12_qKind_20 lX12_305 kX12_takes vX12_takes sh82 (by decide) rfl (Nat.le_of_ble_eq_true rfl) vc ?_
    intro v2 h2 vc
    obtain ⟨hR2, vc⟩ := vc
    replace hR := hR2.trans hR
    refine go_if_eq 30 dX12_qKind_23 rfl (fun q => ?_) (fun q => ?_)
    · replace vc := vc.1 q
      refine go_aload_n (x := 82) dX12_qKind_30 rfl ?_
      refine go_aload_n (x := 82) dX12_qKind_31 rfl ?_
      refine go_getR (x := 145) dX12_qKind_32 f12_206 sh82 (fun _ _ => rfl) (rf82_86 hR) ?_
      refine gvI1 MX12_takes dX12_qKind_35 lX12_305 kX12_takes vX12_takes sh82 (by decide) rfl (Nat.le_of_ble_eq_true rfl) vc ?_
      intro v3 h3 vc
      obtain ⟨hR3, vc⟩ := vc
      replace hR := hR3.trans hR
      refine go_if_eq 45 dX12_qKind_38 rfl (fun q => ?_) (fun q => ?_)
      · replace vc := vc.1 q
        refine go_aload_n (x := 82) dX12_qKind_45 rfl ?_
        refine go_aload_n (x := 82) dX12_qKind_46 rfl ?_
        refine go_getR (x := 146) dX12_qKind_47 f12_209 sh82 (fun _ _ => rfl) (rf82_87 hR) ?_
        refine gvI1 MX12_takes dX12_qKind_50 lX12_305 kX12_takes vX12_takes sh82 (by decide) rfl (Nat.le_of_ble_eq_true rfl) vc ?_
        intro v4 h4 vc
        obtain ⟨hR4, vc⟩ := vc
        replace hR := hR4.trans hR
        refine go_if_eq 60 dX12_qKind_53 rfl (fun q => ?_) (fun q => ?_)
        · replace vc := vc.1 q
          refine go_aload_n (x := 82) dX12_qKind_60 rfl ?_
          refine go_aload_n (x := 82) dX12_qKind_61 rfl ?_
          refine go_getR (x := 147) dX12_qKind_62 f12_212 sh82 (fun _ _ => rfl) (rf82_88 hR) ?_
          refine gvI1 MX12_takes dX12_qKind_65 lX12_305 kX12_takes vX12_takes sh82 (by decide) rfl (Nat.le_of_ble_eq_true rfl) vc ?_
          intro v5 h5 vc
          obtain ⟨hR5, vc⟩ := vc
          replace hR := hR5.trans hR
          refine go_if_eq 75 dX12_qKind_68 rfl (fun q => ?_) (fun q => ?_)
          · replace vc := vc.1 q
            refine go_iconst (v := 5) dX12_qKind_75 rfl ?_
            refine go_istore_n dX12_qKind_76 (Nat.le_of_ble_eq_true rfl) ?_
            show gg p l e s m args below meth c G (d + 1) MX12_qKind Q 77 [some (.ref 82), some (.int 5)] [] h5
            refine go_iload_n (x := 5) dX12_qKind_77 rfl ?_
            refine go_iconst (v := 5) dX12_qKind_78 rfl ?_
            refine go_icmp_ne 90 dX12_qKind_79 rfl (fun q => absurd q (by decide)) (fun q => ?_)
            refine go_aload_n (x := 82) dX12_qKind_82 rfl ?_
            refine go_aload_n (x := 82) dX12_qKind_83 rfl ?_
            refine go_getR (x := 148) dX12_qKind_84 f12_215 sh82 (fun _ _ => rfl) (rf82_89 hR) ?_
            refine gvV1 MX12_asks dX12_qKind_87 lX12_344 kX12_asks vX12_asks sh82 (by decide) rfl (Nat.le_of_ble_eq_true rfl) vc ?_
            intro h6 vc
            obtain ⟨hR6, vc⟩ := vc
            replace hR := hR6.trans hR
            refine go_iload_n (x := 5) dX12_qKind_90 rfl ?_
            exact go_iret dX12_qKind_91 rfl vc rfl (Nat.le_refl _) (Nat.le_refl _)
          · replace vc := vc.2 q
            refine go_iconst (v := 4) dX12_qKind_71 rfl ?_
            refine go_goto 76 dX12_qKind_72 rfl ?_
            refine go_istore_n dX12_qKind_76 (Nat.le_of_ble_eq_true rfl) ?_
            show gg p l e s m args below meth c G (d + 1) MX12_qKind Q 77 [some (.ref 82), some (.int 4)] [] h5
            refine go_iload_n (x := 4) dX12_qKind_77 rfl ?_
            refine go_iconst (v := 5) dX12_qKind_78 rfl ?_
            refine go_icmp_ne 90 dX12_qKind_79 rfl (fun q => ?_) (fun q => absurd q (by decide))
            refine go_iload_n (x := 4) dX12_qKind_90 rfl ?_
            exact go_iret dX12_qKind_91 rfl vc rfl (Nat.le_refl _) (Nat.le_refl _)
        · replace vc := vc.2 q
          refine go_iconst (v := 3) dX12_qKind_56 rfl ?_
          refine go_goto 76 dX12_qKind_57 rfl ?_
          refine go_istore_n dX12_qKind_76 (Nat.le_of_ble_eq_true rfl) ?_
          show gg p l e s m args below meth c G (d + 1) MX12_qKind Q 77 [some (.ref 82), some (.int 3)] [] h4
          refine go_iload_n (x := 3) dX12_qKind_77 rfl ?_
          refine go_iconst (v := 5) dX12_qKind_78 rfl ?_
          refine go_icmp_ne 90 dX12_qKind_79 rfl (fun q => ?_) (fun q => absurd q (by decide))
          refine go_iload_n (x := 3) dX12_qKind_90 rfl ?_
          exact go_iret dX12_qKind_91 rfl vc rfl (Nat.le_refl _) (Nat.le_refl _)
      · replace vc := vc.2 q
        refine go_iconst (v := 2) dX12_qKind_41 rfl ?_
        refine go_goto 76 dX12_qKind_42 rfl ?_
        refine go_istore_n dX12_qKind_76 (Nat.le_of_ble_eq_true rfl) ?_
        show gg p l e s m args below meth c G (d + 1) MX12_qKind Q 77 [some (.ref 82), some (.int 2)] [] h3
        refine go_iload_n (x := 2) dX12_qKind_77 rfl ?_
        refine go_iconst (v := 5) dX12_qKind_78 rfl ?_
        refine go_icmp_ne 90 dX12_qKind_79 rfl (fun q => ?_) (fun q => absurd q (by decide))
        refine go_iload_n (x := 2) dX12_qKind_90 rfl ?_
        exact go_iret dX12_qKind_91 rfl vc rfl (Nat.le_refl _) (Nat.le_refl _)
    · replace vc := vc.2 q
      refine go_iconst (v := 1) dX12_qKind_26 rfl ?_
      refine go_goto 76 dX12_qKind_27 rfl ?_
      refine go_istore_n dX12_qKind_76 (Nat.le_of_ble_eq_true rfl) ?_
      show gg p l e s m args below meth c G (d + 1) MX12_qKind Q 77 [some (.ref 82), some (.int 1)] [] h2
      refine go_iload_n (x := 1) dX12_qKind_77 rfl ?_
      refine go_iconst (v := 5) dX12_qKind_78 rfl ?_
      refine go_icmp_ne 90 dX12_qKind_79 rfl (fun q => ?_) (fun q => absurd q (by decide))
      refine go_iload_n (x := 1) dX12_qKind_90 rfl ?_
      exact go_iret dX12_qKind_91 rfl vc rfl (Nat.le_refl _) (Nat.le_refl _)
  · replace vc := vc.2 q
    refine go_iconst (v := 0) dX12_qKind_11 rfl ?_
    refine go_goto 76 dX12_qKind_12 rfl ?_
    refine go_istore_n dX12_qKind_76 (Nat.le_of_ble_eq_true rfl) ?_
    show gg p l e s m args below meth c G (d + 1) MX12_qKind Q 77 [some (.ref 82), some (.int 0)] [] h1
    refine go_iload_n (x := 0) dX12_qKind_77 rfl ?_
    refine go_iconst (v := 5) dX12_qKind_78 rfl ?_
    refine go_icmp_ne 90 dX12_qKind_79 rfl (fun q => ?_) (fun q => absurd q (by decide))
    refine go_iload_n (x := 0) dX12_qKind_90 rfl ?_
    exact go_iret dX12_qKind_91 rfl vc rfl (Nat.le_refl _) (Nat.le_refl _)
set_option maxRecDepth 20000 in
theorem wX12_qTakes_0 {p : Program} {l : Launch} {e : Env} {s : State} {m : MethodId} {args : Array Value} {below : List Frame} {meth : Method} {c : Code} {G : gG} {d : Nat} {Q : Option Value → gH → Prop} {h : gH} {lk sp : Nat} {cd : Option Nat} {a1 : Int32} {a2 : Int64} {a3 : Int32} (hR : h.2.2 = gRF lk sp cd) (hlk : lk = 30 ∨ lk = 67) (hsp : sp = 30 ∨ sp = 67)  (vc : ((3 ≤ a1 → gg p l e s m args below meth c G d MX12_qTakes Q 15 [some (.ref 82), some (.int a1), some (.long a2), none, some (.int a3), none] [] h) ∧ (¬ 3 ≤ a1 → ((¬ (lg_cmp a2 1) = 0 → gg p l e s m args below meth c G d MX12_qTakes Q 15 [some (.ref 82), some (.int a1), some (.long a2), none, some (.int a3), none] [] h) ∧ ((lg_cmp a2 1) = 0 → ((¬ a1 = 0 → gg p l e s m args below meth c G d MX12_qTakes Q 38 [some (.ref 82), some (.int a1), some (.long a2), none, some (.int a3), some (.int 1)] [] h) ∧ (a1 = 0 → (((lg_cmp (h.2.1 82 113) (-1)) = 0 → gg p l e s m args below meth c G d MX12_qTakes Q 48 [some (.ref 82), some (.int a1), some (.long a2), none, some (.int a3), some (.int 1)] [] h) ∧ (¬ (lg_cmp (h.2.1 82 113) (-1)) = 0 → gg p l e s m args below meth c G d MX12_qTakes Q 38 [some (.ref 82), some (.int a1), some (.long a2), none, some (.int a3), some (.int 1)] [] h))))))))) : gg p l e s m args below meth c G d MX12_qTakes Q 0 [some (.ref 82), some (.int a1), some (.long a2), none, some (.int a3), none] [] h := by
  refine go_iload_n (x := a1) dX12_qTakes_0 rfl ?_
  refine go_iconst (v := 3) dX12_qTakes_1 rfl ?_
  refine go_icmp_ge 15 dX12_qTakes_2 rfl (fun q => ?_) (fun q => ?_)
  · replace vc := vc.1 q
    exact vc
  · replace vc := vc.2 q
    refine go_lload_n (x := a2) dX12_qTakes_5 rfl ?_
    refine go_lconst (v := 1) dX12_qTakes_6 rfl ?_
    refine go_lcmp dX12_qTakes_7 ?_
    refine go_if_ne 15 dX12_qTakes_8 rfl (fun q => ?_) (fun q => ?_)
    · replace vc := vc.1 q
      exact vc
    · replace vc := vc.2 q
      refine go_iconst (v := 1) dX12_qTakes_11 rfl ?_
      refine go_goto 16 dX12_qTakes_12 rfl ?_
      refine go_istore dX12_qTakes_16 (Nat.le_of_ble_eq_true rfl) ?_
      show gg p l e s m args below meth c G d MX12_qTakes Q 18 [some (.ref 82), some (.int a1), some (.long a2), none, some (.int a3), some (.int 1)] [] h
      refine go_iload_n (x := a1) dX12_qTakes_18 rfl ?_
      refine go_if_ne 38 dX12_qTakes_19 rfl (fun q => ?_) (fun q => ?_)
      · replace vc := vc.1 q
        exact vc
      · replace vc := vc.2 q
        refine go_iload (x := 1) dX12_qTakes_22 rfl ?_
        refine go_if_eq 38 dX12_qTakes_24 rfl (fun q => absurd q (by decide)) (fun q => ?_)
        refine go_aload_n (x := 82) dX12_qTakes_27 rfl ?_
        refine go_getL' (v := (h.2.1 82 113)) dX12_qTakes_28 f12_772 sh82 (fun _ _ => rfl) rfl ?_
        refine go_ldc2 (v := (-1)) dX12_qTakes_31 nX12_775 ?_
        refine go_lcmp dX12_qTakes_34 ?_
        refine go_if_eq 48 dX12_qTakes_35 rfl (fun q => ?_) (fun q => ?_)
        · replace vc := vc.1 q
          exact vc
        · replace vc := vc.2 q
          exact vc
set_option maxRecDepth 20000 in
theorem wX12_qTakes_15 {p : Program} {l : Launch} {e : Env} {s : State} {m : MethodId} {args : Array Value} {below : List Frame} {meth : Method} {c : Code} {G : gG} {d : Nat} {Q : Option Value → gH → Prop} {h : gH} {lk sp : Nat} {cd : Option Nat} {x1 : Int32} {x2 : Int64} {x4 : Int32} (hR : h.2.2 = gRF lk sp cd) (hlk : lk = 30 ∨ lk = 67) (hsp : sp = 30 ∨ sp = 67)  (vc : ((¬ x1 = 0 → gg p l e s m args below meth c G d MX12_qTakes Q 38 [some (.ref 82), some (.int x1), some (.long x2), none, some (.int x4), some (.int 0)] [] h) ∧ (x1 = 0 → gg p l e s m args below meth c G d MX12_qTakes Q 38 [some (.ref 82), some (.int x1), some (.long x2), none, some (.int x4), some (.int 0)] [] h))) : gg p l e s m args below meth c G d MX12_qTakes Q 15 [some (.ref 82), some (.int x1), some (.long x2), none, some (.int x4), none] [] h := by
  refine go_iconst (v := 0) dX12_qTakes_15 rfl ?_
  refine go_istore dX12_qTakes_16 (Nat.le_of_ble_eq_true rfl) ?_
  show gg p l e s m args below meth c G d MX12_qTakes Q 18 [some (.ref 82), some (.int x1), some (.long x2), none, some (.int x4), some (.int 0)] [] h
  refine go_iload_n (x := x1) dX12_qTakes_18 rfl ?_
  refine go_if_ne 38 dX12_qTakes_19 rfl (fun q => ?_) (fun q => ?_)
  · replace vc := vc.1 q
    exact vc
  · replace vc := vc.2 q
    refine go_iload (x := 0) dX12_qTakes_22 rfl ?_
    refine go_if_eq 38 dX12_qTakes_24 rfl (fun q => ?_) (fun q => absurd q (by decide))
    exact vc
set_option maxRecDepth 20000 in
theorem wX12_qTakes_38 {p : Program} {l : Launch} {e : Env} {s : State} {m : MethodId} {args : Array Value} {below : List Frame} {meth : Method} {c : Code} {G : gG} {d : Nat} {Q : Option Value → gH → Prop} {h : gH} {lk sp : Nat} {cd : Option Nat} {x1 : Int32} {x2 : Int64} {x4 : Int32} {x5 : Int32} (hR : h.2.2 = gRF lk sp cd) (hlk : lk = 30 ∨ lk = 67) (hsp : sp = 30 ∨ sp = 67)  (vc : ((¬ x1 = 1 → gg p l e s m args below meth c G d MX12_qTakes Q 55 [some (.ref 82), some (.int x1), some (.long x2), none, some (.int x4), some (.int x5)] [] h) ∧ (x1 = 1 → ((x5 = 0 → gg p l e s m args below meth c G d MX12_qTakes Q 55 [some (.ref 82), some (.int x1), some (.long x2), none, some (.int x4), some (.int x5)] [] h) ∧ (¬ x5 = 0 → gg p l e s m args below meth c G d MX12_qTakes Q 48 [some (.ref 82), some (.int x1), some (.long x2), none, some (.int x4), some (.int x5)] [] h))))) : gg p l e s m args below meth c G d MX12_qTakes Q 38 [some (.ref 82), some (.int x1), some (.long x2), none, some (.int x4), some (.int x5)] [] h := by
  refine go_iload_n (x := x1) dX12_qTakes_38 rfl ?_
  refine go_iconst (v := 1) dX12_qTakes_39 rfl ?_
  refine go_icmp_ne 55 dX12_qTakes_40 rfl (fun q => ?_) (fun q => ?_)
  · replace vc := vc.1 q
    exact vc
  · replace vc := vc.2 q
    refine go_iload (x := x5) dX12_qTakes_43 rfl ?_
    refine go_if_eq 55 dX12_qTakes_45 rfl (fun q => ?_) (fun q => ?_)
    · replace vc := vc.1 q
      exact vc
    · replace vc := vc.2 q
      exact vc
set_option maxRecDepth 20000 in
theorem wX12_qTakes_48 {p : Program} {l : Launch} {e : Env} {s : State} {m : MethodId} {args : Array Value} {below : List Frame} {meth : Method} {c : Code} {G : gG} {d : Nat} {Q : Option Value → gH → Prop} {h : gH} {lk sp : Nat} {cd : Option Nat} {x1 : Int32} {x2 : Int64} {x4 : Int32} {x5 : Int32} (hR : h.2.2 = gRF lk sp cd) (hlk : lk = 30 ∨ lk = 67) (hsp : sp = 30 ∨ sp = 67)  (vc : gg p l e s m args below meth c G d MX12_qTakes Q 55 [some (.ref 82), some (.int x1), some (.long x2), none, some (.int x4), some (.int x5)] [] (sL h 82 113 (x4 : Int32).toInt64)) : gg p l e s m args below meth c G d MX12_qTakes Q 48 [some (.ref 82), some (.int x1), some (.long x2), none, some (.int x4), some (.int x5)] [] h := by
  refine go_aload_n (x := 82) dX12_qTakes_48 rfl ?_
  refine go_iload (x := x4) dX12_qTakes_49 rfl ?_
  refine go_i2l dX12_qTakes_51 ?_
  refine go_putL dX12_qTakes_52 f12_772 sh82 rfl rfl ?_
  exact vc
set_option maxRecDepth 20000 in
theorem wX12_qTakes_55 {p : Program} {l : Launch} {e : Env} {s : State} {m : MethodId} {args : Array Value} {below : List Frame} {meth : Method} {c : Code} {G : gG} {d : Nat} {Q : Option Value → gH → Prop} {h : gH} {lk sp : Nat} {cd : Option Nat} {x1 : Int32} {x2 : Int64} {x4 : Int32} {x5 : Int32} (hR : h.2.2 = gRF lk sp cd) (hlk : lk = 30 ∨ lk = 67) (hsp : sp = 30 ∨ sp = 67)  (vc : ((¬ x1 = 2 → gg p l e s m args below meth c G d MX12_qTakes Q 75 [some (.ref 82), some (.int x1), some (.long x2), none, some (.int x4), some (.int x5)] [] h) ∧ (x1 = 2 → ((x5 = 0 → gg p l e s m args below meth c G d MX12_qTakes Q 75 [some (.ref 82), some (.int x1), some (.long x2), none, some (.int x4), some (.int x5)] [] h) ∧ (¬ x5 = 0 → gg p l e s m args below meth c G d MX12_qTakes Q 75 [some (.ref 82), some (.int x1), some (.long x2), none, some (.int x4), some (.int x5)] [] (sL h 82 113 ((h.2.1 82 113) + 1))))))) : gg p l e s m args below meth c G d MX12_qTakes Q 55 [some (.ref 82), some (.int x1), some (.long x2), none, some (.int x4), some (.int x5)] [] h := by
  refine go_iload_n (x := x1) dX12_qTakes_55 rfl ?_
  refine go_iconst (v := 2) dX12_qTakes_56 rfl ?_
  refine go_icmp_ne 75 dX12_qTakes_57 rfl (fun q => ?_) (fun q => ?_)
  · replace vc := vc.1 q
    exact vc
  · replace vc := vc.2 q
    refine go_iload (x := x5) dX12_qTakes_60 rfl ?_
    refine go_if_eq 75 dX12_qTakes_62 rfl (fun q => ?_) (fun q => ?_)
    · replace vc := vc.1 q
      exact vc
    · replace vc := vc.2 q
      refine go_aload_n (x := 82) dX12_qTakes_65 rfl ?_
      refine go_dup dX12_qTakes_66 rfl ?_
      refine go_getL' (v := (h.2.1 82 113)) dX12_qTakes_67 f12_772 sh82 (fun _ _ => rfl) rfl ?_
      refine go_lconst (v := 1) dX12_qTakes_70 rfl ?_
      refine go_ladd dX12_qTakes_71 ?_
      refine go_putL dX12_qTakes_72 f12_772 sh82 rfl rfl ?_
      exact vc
set_option maxRecDepth 20000 in
theorem wX12_qTakes_75 {p : Program} {l : Launch} {e : Env} {s : State} {m : MethodId} {args : Array Value} {below : List Frame} {meth : Method} {c : Code} {G : gG} {d : Nat} {Q : Option Value → gH → Prop} {h : gH} {lk sp : Nat} {cd : Option Nat} {x1 : Int32} {x2 : Int64} {x4 : Int32} {x5 : Int32} (hR : h.2.2 = gRF lk sp cd) (hlk : lk = 30 ∨ lk = 67) (hsp : sp = 30 ∨ sp = 67)  (vc : ((¬ x1 = 3 → gg p l e s m args below meth c G d MX12_qTakes Q 90 [some (.ref 82), some (.int x1), some (.long x2), none, some (.int x4), some (.int x5)] [] h) ∧ (x1 = 3 → gg p l e s m args below meth c G d MX12_qTakes Q 90 [some (.ref 82), some (.int x1), some (.long x2), none, some (.int x4), some (.int x5)] [] (sL h 82 113 ((h.2.1 82 113) + x2))))) : gg p l e s m args below meth c G d MX12_qTakes Q 75 [some (.ref 82), some (.int x1), some (.long x2), none, some (.int x4), some (.int x5)] [] h := by
  refine go_iload_n (x := x1) dX12_qTakes_75 rfl ?_
  refine go_iconst (v := 3) dX12_qTakes_76 rfl ?_
  refine go_icmp_ne 90 dX12_qTakes_77 rfl (fun q => ?_) (fun q => ?_)
  · replace vc := vc.1 q
    exact vc
  · replace vc := vc.2 q
    refine go_aload_n (x := 82) dX12_qTakes_80 rfl ?_
    refine go_dup dX12_qTakes_81 rfl ?_
    refine go_getL' (v := (h.2.1 82 113)) dX12_qTakes_82 f12_772 sh82 (fun _ _ => rfl) rfl ?_
    refine go_lload_n (x := x2) dX12_qTakes_85 rfl ?_
    refine go_ladd dX12_qTakes_86 ?_
    refine go_putL dX12_qTakes_87 f12_772 sh82 rfl rfl ?_
    exact vc
set_option maxRecDepth 20000 in
theorem wX12_qTakes_90 {p : Program} {l : Launch} {e : Env} {s : State} {m : MethodId} {args : Array Value} {below : List Frame} {meth : Method} {c : Code} {G : gG} {d : Nat} {Q : Option Value → gH → Prop} {h : gH} {lk sp : Nat} {cd : Option Nat} {x1 : Int32} {x2 : Int64} {x4 : Int32} {x5 : Int32} (hR : h.2.2 = gRF lk sp cd) (hlk : lk = 30 ∨ lk = 67) (hsp : sp = 30 ∨ sp = 67)  (vc : ((x1 ≤ 3 → gg p l e s m args below meth c G d MX12_qTakes Q 133 [some (.ref 82), some (.int x1), some (.long x2), none, some (.int x4), some (.int x5)] [] h) ∧ (¬ x1 ≤ 3 → ((¬ (h.1 82 114) = 0 → gg p l e s m args below meth c G d MX12_qTakes Q 128 [some (.ref 82), some (.int x1), some (.long x2), none, some (.int x4), some (.int x5)] [] h) ∧ ((h.1 82 114) = 0 → ((¬ x1 = 4 → ((0 ≤ (lg_cmp x2 (h.2.1 82 113)) → gg p l e s m args below meth c G d MX12_qTakes Q 133 [some (.ref 82), some (.int x1), some (.long x2), none, some (.int x4), some (.int x5)] [] h) ∧ (¬ 0 ≤ (lg_cmp x2 (h.2.1 82 113)) → gg p l e s m args below meth c G d MX12_qTakes Q 128 [some (.ref 82), some (.int x1), some (.long x2), none, some (.int x4), some (.int x5)] [] h))) ∧ (x1 = 4 → (((lg_cmp x2 (h.2.1 82 113)) ≤ 0 → gg p l e s m args below meth c G d MX12_qTakes Q 133 [some (.ref 82), some (.int x1), some (.long x2), none, some (.int x4), some (.int x5)] [] h) ∧ (¬ (lg_cmp x2 (h.2.1 82 113)) ≤ 0 → gg p l e s m args below meth c G d MX12_qTakes Q 128 [some (.ref 82), some (.int x1), some (.long x2), none, some (.int x4), some (.int x5)] [] h))))))))) : gg p l e s m args below meth c G d MX12_qTakes Q 90 [some (.ref 82), some (.int x1), some (.long x2), none, some (.int x4), some (.int x5)] [] h := by
  refine go_iload_n (x := x1) dX12_qTakes_90 rfl ?_
  refine go_iconst (v := 3) dX12_qTakes_91 rfl ?_
  refine go_icmp_le 133 dX12_qTakes_92 rfl (fun q => ?_) (fun q => ?_)
  · replace vc := vc.1 q
    exact vc
  · replace vc := vc.2 q
    refine go_aload_n (x := 82) dX12_qTakes_95 rfl ?_
    refine go_getI' (v := (h.1 82 114)) dX12_qTakes_96 f12_777 sh82 (fun _ _ => rfl) rfl ?_
    refine go_if_ne 128 dX12_qTakes_99 rfl (fun q => ?_) (fun q => ?_)
    · replace vc := vc.1 q
      exact vc
    · replace vc := vc.2 q
      refine go_iload_n (x := x1) dX12_qTakes_102 rfl ?_
      refine go_iconst (v := 4) dX12_qTakes_103 rfl ?_
      refine go_icmp_ne 119 dX12_qTakes_104 rfl (fun q => ?_) (fun q => ?_)
      · replace vc := vc.1 q
        refine go_lload_n (x := x2) dX12_qTakes_119 rfl ?_
        refine go_aload_n (x := 82) dX12_qTakes_120 rfl ?_
        refine go_getL' (v := (h.2.1 82 113)) dX12_qTakes_121 f12_772 sh82 (fun _ _ => rfl) rfl ?_
        refine go_lcmp dX12_qTakes_124 ?_
        refine go_if_ge 133 dX12_qTakes_125 rfl (fun q => ?_) (fun q => ?_)
        · replace vc := vc.1 q
          exact vc
        · replace vc := vc.2 q
          exact vc
      · replace vc := vc.2 q
        refine go_lload_n (x := x2) dX12_qTakes_107 rfl ?_
        refine go_aload_n (x := 82) dX12_qTakes_108 rfl ?_
        refine go_getL' (v := (h.2.1 82 113)) dX12_qTakes_109 f12_772 sh82 (fun _ _ => rfl) rfl ?_
        refine go_lcmp dX12_qTakes_112 ?_
        refine go_if_le 133 dX12_qTakes_113 rfl (fun q => ?_) (fun q => ?_)
        · replace vc := vc.1 q
          exact vc
        · replace vc := vc.2 q
          refine go_goto 128 dX12_qTakes_116 rfl ?_
          exact vc
set_option maxRecDepth 20000 in
theorem wX12_qTakes_128 {p : Program} {l : Launch} {e : Env} {s : State} {m : MethodId} {args : Array Value} {below : List Frame} {meth : Method} {c : Code} {G : gG} {d : Nat} {Q : Option Value → gH → Prop} {h : gH} {lk sp : Nat} {cd : Option Nat} {x1 : Int32} {x2 : Int64} {x4 : Int32} {x5 : Int32} (hR : h.2.2 = gRF lk sp cd) (hlk : lk = 30 ∨ lk = 67) (hsp : sp = 30 ∨ sp = 67)  (vc : gg p l e s m args below meth c G d MX12_qTakes Q 133 [some (.ref 82), some (.int x1), some (.long x2), none, some (.int x4), some (.int x5)] [] (sL h 82 113 x2)) : gg p l e s m args below meth c G d MX12_qTakes Q 128 [some (.ref 82), some (.int x1), some (.long x2), none, some (.int x4), some (.int x5)] [] h := by
  refine go_aload_n (x := 82) dX12_qTakes_128 rfl ?_
  refine go_lload_n (x := x2) dX12_qTakes_129 rfl ?_
  refine go_putL dX12_qTakes_130 f12_772 sh82 rfl rfl ?_
  exact vc
set_option maxRecDepth 20000 in
theorem wX12_qTakes_133 {p : Program} {l : Launch} {e : Env} {s : State} {m : MethodId} {args : Array Value} {below : List Frame} {meth : Method} {c : Code} {G : gG} {d : Nat} {Q : Option Value → gH → Prop} {h : gH} {lk sp : Nat} {cd : Option Nat} {x1 : Int32} {x2 : Int64} {x4 : Int32} {x5 : Int32} (hR : h.2.2 = gRF lk sp cd) (hlk : lk = 30 ∨ lk = 67) (hsp : sp = 30 ∨ sp = 67)  (vc : Q none (sI h 82 114 0)) : gg p l e s m args below meth c G d MX12_qTakes Q 133 [some (.ref 82), some (.int x1), some (.long x2), none, some (.int x4), some (.int x5)] [] h := by
  refine go_aload_n (x := 82) dX12_qTakes_133 rfl ?_
  refine go_iconst (v := 0) dX12_qTakes_134 rfl ?_
  refine go_putZ dX12_qTakes_135 f12_777 sh82 rfl rfl (by decide) ?_
  exact go_vret dX12_qTakes_138 rfl vc rfl (Nat.le_refl _) (Nat.le_refl _)
set_option maxRecDepth 20000 in
theorem wX12_ask_0 {p : Program} {l : Launch} {e : Env} {s : State} {m : MethodId} {args : Array Value} {below : List Frame} {meth : Method} {c : Code} {G : gG} {d : Nat} {Q : Option Value → gH → Prop} {h : gH} {lk sp : Nat} {cd : Option Nat} {a1 : Int32} (hR : h.2.2 = gRF lk sp cd) (hlk : lk = 30 ∨ lk = 67) (hsp : sp = 30 ∨ sp = 67)  (vc : gC l G d MX12_isBoat [.ref 82, .int a1] h (rI fun v1 h1 => h1.2.2 = (h).2.2 ∧ ((¬ v1 = 0 → gC l G d MX12_qKind [.ref 82] (sI (sI (sI (sI (sI (sI (sI (sI (sI (sI h1 82 3 (h1.1 82 1)) 82 1 0) 82 2 0) 82 4 (-1)) 82 5 0) 82 6 (-1)) 82 106 0) 82 108 0) 82 109 0) 82 110 0) (rI fun v2 h2 => h2.2.2 = ((sI (sI (sI (sI (sI (sI (sI (sI (sI (sI h1 82 3 (h1.1 82 1)) 82 1 0) 82 2 0) 82 4 (-1)) 82 5 0) 82 6 (-1)) 82 106 0) 82 108 0) 82 109 0) 82 110 0)).2.2 ∧ ((¬ (h2.1 82 5) = 0 → gg p l e s m args below meth c G (d + 1) MX12_ask Q 94 [some (.ref 82), some (.int a1), some (.int v2), none] [] h2) ∧ ((h2.1 82 5) = 0 → ((3 ≤ v2 → gg p l e s m args below meth c G (d + 1) MX12_ask Q 94 [some (.ref 82), some (.int a1), some (.int v2), none] [] h2) ∧ (¬ 3 ≤ v2 → gC l G d MX12_qTest [.ref 82] h2 (rV fun h3 => h3.2.2 = (h2).2.2 ∧ gg p l e s m args below meth c G (d + 1) MX12_ask Q 105 [some (.ref 82), some (.int a1), some (.int v2), none] [] h3))))))) ∧ (v1 = 0 → Q (some (.long (-1000000000000000))) (sI h1 82 1 0))))) : gg p l e s m args below meth c G (d + 1) MX12_ask Q 0 [some (.ref 82), some (.int a1), none, none] [] h := by
  refine go_aload_n (x := 82) dX12_ask_0 rfl ?_
  refine go_iload_n (x := a1) dX12_ask_1 rfl ?_
  refine gvI1 MX12_isBoat dX12_ask_2 lX12_564 kX12_isBoat vX12_isBoat sh82 (by decide) rfl (Nat.le_of_ble_eq_true rfl) vc ?_
  intro v1 h1 vc
  obtain ⟨hR1, vc⟩ := vc
  replace hR := hR1.trans hR
  refine go_if_ne 17 dX12_ask_5 rfl (fun q => ?_) (fun q => ?_)
  · replace vc := vc.1 q
    refine go_aload_n (x := 82) dX12_ask_17 rfl ?_
    refine go_aload_n (x := 82) dX12_ask_18 rfl ?_
    refine go_getI' (v := (h1.1 82 1)) dX12_ask_19 f12_275 sh82 (fun _ _ => rfl) rfl ?_
    refine go_putI dX12_ask_22 f12_287 sh82 rfl rfl ?_
    refine go_aload_n (x := 82) dX12_ask_25 rfl ?_
    refine go_iconst (v := 0) dX12_ask_26 rfl ?_
    refine go_putI dX12_ask_27 f12_275 sh82 rfl rfl ?_
    refine go_aload_n (x := 82) dX12_ask_30 rfl ?_
    refine go_iconst (v := 0) dX12_ask_31 rfl ?_
    refine go_putI dX12_ask_32 f12_284 sh82 rfl rfl ?_
    refine go_aload_n (x := 82) dX12_ask_35 rfl ?_
    refine go_iconst (v := (-1)) dX12_ask_36 rfl ?_
    refine go_putI dX12_ask_37 f12_298 sh82 rfl rfl ?_
    refine go_aload_n (x := 82) dX12_ask_40 rfl ?_
    refine go_iconst (v := 0) dX12_ask_41 rfl ?_
    refine go_putI dX12_ask_42 f12_278 sh82 rfl rfl ?_
    refine go_aload_n (x := 82) dX12_ask_45 rfl ?_
    refine go_iconst (v := (-1)) dX12_ask_46 rfl ?_
    refine go_putI dX12_ask_47 f12_281 sh82 rfl rfl ?_
    refine go_aload_n (x := 82) dX12_ask_50 rfl ?_
    refine go_iconst (v := 0) dX12_ask_51 rfl ?_
    refine go_putI dX12_ask_52 f12_680 sh82 rfl rfl ?_
    refine go_aload_n (x := 82) dX12_ask_55 rfl ?_
    refine go_iconst (v := 0) dX12_ask_56 rfl ?_
    refine go_putI dX12_ask_57 f12_686 sh82 rfl rfl ?_
    refine go_aload_n (x := 82) dX12_ask_60 rfl ?_
    refine go_iconst (v := 0) dX12_ask_61 rfl ?_
    refine go_putI dX12_ask_62 f12_683 sh82 rfl rfl ?_
    refine go_aload_n (x := 82) dX12_ask_65 rfl ?_
    refine go_iconst (v := 0) dX12_ask_66 rfl ?_
    refine go_putI dX12_ask_67 f12_692 sh82 rfl rfl ?_
    refine go_aload_n (x := 82) dX12_ask_70 rfl ?_
    refine gvI0 MX12_qKind dX12_ask_71 lX12_782 kX12_qKind vX12_qKind sh82 (by decide) rfl (Nat.le_of_ble_eq_true rfl) vc ?_
    intro v2 h2 vc
    obtain ⟨hR2, vc⟩ := vc
    replace hR := hR2.trans hR
    refine go_istore_n dX12_ask_74 (Nat.le_of_ble_eq_true rfl) ?_
    show gg p l e s m args below meth c G (d + 1) MX12_ask Q 75 [some (.ref 82), some (.int a1), some (.int v2), none] [] h2
    refine go_aload_n (x := 82) dX12_ask_75 rfl ?_
    refine go_getI' (v := (h2.1 82 5)) dX12_ask_76 f12_278 sh82 (fun _ _ => rfl) rfl ?_
    refine go_if_ne 94 dX12_ask_79 rfl (fun q => ?_) (fun q => ?_)
    · replace vc := vc.1 q
      exact vc
    · replace vc := vc.2 q
      refine go_iload_n (x := v2) dX12_ask_82 rfl ?_
      refine go_iconst (v := 3) dX12_ask_83 rfl ?_
      refine go_icmp_ge 94 dX12_ask_84 rfl (fun q => ?_) (fun q => ?_)
      · replace vc := vc.1 q
        exact vc
      · replace vc := vc.2 q
        refine go_aload_n (x := 82) dX12_ask_87 rfl ?_
        refine gvV0 MX12_qTest dX12_ask_88 lX12_785 kX12_qTest vX12_qTest sh82 (by decide) rfl (Nat.le_of_ble_eq_true rfl) vc ?_
        intro h3 vc
        obtain ⟨hR3, vc⟩ := vc
        replace hR := hR3.trans hR
        refine go_goto 105 dX12_ask_91 rfl ?_
        exact vc
  · replace vc := vc.2 q
    refine go_aload_n (x := 82) dX12_ask_8 rfl ?_
    refine go_iconst (v := 0) dX12_ask_9 rfl ?_
    refine go_putI dX12_ask_10 f12_275 sh82 rfl rfl ?_
    refine go_ldc2 (v := (-1000000000000000)) dX12_ask_13 nX12_780 ?_
    exact go_lret dX12_ask_16 rfl vc rfl (Nat.le_refl _) (Nat.le_refl _)
set_option maxRecDepth 20000 in
theorem wX12_ask_94 {p : Program} {l : Launch} {e : Env} {s : State} {m : MethodId} {args : Array Value} {below : List Frame} {meth : Method} {c : Code} {G : gG} {d : Nat} {Q : Option Value → gH → Prop} {h : gH} {lk sp : Nat} {cd : Option Nat} {x1 : Int32} {x2 : Int32} (hR : h.2.2 = gRF lk sp cd) (hlk : lk = 30 ∨ lk = 67) (hsp : sp = 30 ∨ sp = 67)  (vc : ((¬ (h.1 82 5) = 0 → gg p l e s m args below meth c G (d + 1) MX12_ask Q 105 [some (.ref 82), some (.int x1), some (.int x2), none] [] h) ∧ ((h.1 82 5) = 0 → gC l G d MX12_qSums [.ref 82] h (rV fun h1 => h1.2.2 = (h).2.2 ∧ gg p l e s m args below meth c G (d + 1) MX12_ask Q 105 [some (.ref 82), some (.int x1), some (.int x2), none] [] h1)))) : gg p l e s m args below meth c G (d + 1) MX12_ask Q 94 [some (.ref 82), some (.int x1), some (.int x2), none] [] h := by
  refine go_aload_n (x := 82) dX12_ask_94 rfl ?_
  refine go_getI' (v := (h.1 82 5)) dX12_ask_95 f12_278 sh82 (fun _ _ => rfl) rfl ?_
  refine go_if_ne 105 dX12_ask_98 rfl (fun q => ?_) (fun q => ?_)
  · replace vc := vc.1 q
    exact vc
  · replace vc := vc.2 q
    refine go_aload_n (x := 82) dX12_ask_101 rfl ?_
    refine gvV0 MX12_qSums dX12_ask_102 lX12_731 kX12_qSums vX12_qSums sh82 (by decide) rfl (Nat.le_of_ble_eq_true rfl) vc ?_
    intro h1 vc
    obtain ⟨hR1, vc⟩ := vc
    replace hR := hR1.trans hR
    exact vc
set_option maxRecDepth 20000 in
theorem wX12_ask_105 {p : Program} {l : Launch} {e : Env} {s : State} {m : MethodId} {args : Array Value} {below : List Frame} {meth : Method} {c : Code} {G : gG} {d : Nat} {Q : Option Value → gH → Prop} {h : gH} {lk sp : Nat} {cd : Option Nat} {x1 : Int32} {x2 : Int32} (hR : h.2.2 = gRF lk sp cd) (hlk : lk = 30 ∨ lk = 67) (hsp : sp = 30 ∨ sp = 67)  (vc : ((¬ (h.1 82 5) = 0 → gg p l e s m args below meth c G (d + 1) MX12_ask Q 129 [some (.ref 82), some (.int x1), some (.int x2), none] [] h) ∧ ((h.1 82 5) = 0 → gC l G d MX12_look [.ref 82] h (rI fun v1 h1 => h1.2.2 = (h).2.2 ∧ ((v1 = (-1) → gg p l e s m args below meth c G (d + 1) MX12_ask Q 129 [some (.ref 82), some (.int x1), some (.int x2), none] [] h1) ∧ (¬ v1 = (-1) → gC l G d MX12_fail [.ref 82, .int 1, .int (h1.1 82 2)] h1 (rV fun h2 => h2.2.2 = (h1).2.2 ∧ gg p l e s m args below meth c G (d + 1) MX12_ask Q 129 [some (.ref 82), some (.int x1), some (.int x2), none] [] h2))))))) : gg p l e s m args below meth c G (d + 1) MX12_ask Q 105 [some (.ref 82), some (.int x1), some (.int x2), none] [] h := by
  refine go_aload_n (x := 82) dX12_ask_105 rfl ?_
  refine go_getI' (v := (h.1 82 5)) dX12_ask_106 f12_278 sh82 (fun _ _ => rfl) rfl ?_
  refine go_if_ne 129 dX12_ask_109 rfl (fun q => ?_) (fun q => ?_)
  · replace vc := vc.1 q
    exact vc
  · replace vc := vc.2 q
    refine go_aload_n (x := 82) dX12_ask_112 rfl ?_
    refine gvI0 MX12_look dX12_ask_113 lX12_290 kX12_look vX12_look sh82 (by decide) rfl (Nat.le_of_ble_eq_true rfl) vc ?_
    intro v1 h1 vc
    obtain ⟨hR1, vc⟩ := vc
    replace hR := hR1.trans hR
    refine go_iconst (v := (-1)) dX12_ask_116 rfl ?_
    refine go_icmp_eq 129 dX12_ask_117 rfl (fun q => ?_) (fun q => ?_)
    · replace vc := vc.1 q
      exact vc
    · replace vc := vc.2 q
      refine go_aload_n (x := 82) dX12_ask_120 rfl ?_
      refine go_iconst (v := 1) dX12_ask_121 rfl ?_
      refine go_aload_n (x := 82) dX12_ask_122 rfl ?_
      refine go_getI' (v := (h1.1 82 2)) dX12_ask_123 f12_284 sh82 (fun _ _ => rfl) rfl ?_
      refine gvV2 MX12_fail dX12_ask_126 lX12_308 kX12_fail vX12_fail sh82 (by decide) rfl (Nat.le_of_ble_eq_true rfl) vc ?_
      intro h2 vc
      obtain ⟨hR2, vc⟩ := vc
      replace hR := hR2.trans hR
      exact vc
set_option maxRecDepth 20000 in
theorem wX12_ask_129 {p : Program} {l : Launch} {e : Env} {s : State} {m : MethodId} {args : Array Value} {below : List Frame} {meth : Method} {c : Code} {G : gG} {d : Nat} {Q : Option Value → gH → Prop} {h : gH} {lk sp : Nat} {cd : Option Nat} {x1 : Int32} {x2 : Int32} (hR : h.2.2 = gRF lk sp cd) (hlk : lk = 30 ∨ lk = 67) (hsp : sp = 30 ∨ sp = 67)  (vc : (((h.1 82 5) = 0 → ((2 ≤ x2 → gg p l e s m args below meth c G (d + 1) MX12_ask Q 184 [some (.ref 82), some (.int x1), some (.int x2), some (.int 0)] [] (sI (sI (sL (sI (sI h 82 7 (h.1 82 5)) 82 8 (h.1 82 6)) 82 113 0) 82 114 1) 82 83 x1)) ∧ (¬ 2 ≤ x2 → gg p l e s m args below meth c G (d + 1) MX12_ask Q 184 [some (.ref 82), some (.int x1), some (.int x2), some (.int 0)] [] (sI (sI (sL (sI (sI h 82 7 (h.1 82 5)) 82 8 (h.1 82 6)) 82 113 (-1)) 82 114 1) 82 83 x1)))) ∧ (¬ (h.1 82 5) = 0 → Q (some (.long (-1000000000000000))) (sI (sI h 82 7 (h.1 82 5)) 82 8 (h.1 82 6))))) : gg p l e s m args below meth c G (d + 1) MX12_ask Q 129 [some (.ref 82), some (.int x1), some (.int x2), none] [] h := by
  refine go_aload_n (x := 82) dX12_ask_129 rfl ?_
  refine go_aload_n (x := 82) dX12_ask_130 rfl ?_
  refine go_getI' (v := (h.1 82 5)) dX12_ask_131 f12_278 sh82 (fun _ _ => rfl) rfl ?_
  refine go_putI dX12_ask_134 f12_416 sh82 rfl rfl ?_
  refine go_aload_n (x := 82) dX12_ask_137 rfl ?_
  refine go_aload_n (x := 82) dX12_ask_138 rfl ?_
  refine go_getI' (v := (h.1 82 6)) dX12_ask_139 f12_281 sh82 (fun _ _ => rfl) rfl ?_
  refine go_putI dX12_ask_142 f12_13 sh82 rfl rfl ?_
  refine go_aload_n (x := 82) dX12_ask_145 rfl ?_
  refine go_getI' (v := (h.1 82 5)) dX12_ask_146 f12_278 sh82 (fun _ _ => rfl) rfl ?_
  refine go_if_eq 156 dX12_ask_149 rfl (fun q => ?_) (fun q => ?_)
  · replace vc := vc.1 q
    refine go_aload_n (x := 82) dX12_ask_156 rfl ?_
    refine go_iload_n (x := x2) dX12_ask_157 rfl ?_
    refine go_iconst (v := 2) dX12_ask_158 rfl ?_
    refine go_icmp_ge 168 dX12_ask_159 rfl (fun q => ?_) (fun q => ?_)
    · replace vc := vc.1 q
      refine go_lconst (v := 0) dX12_ask_168 rfl ?_
      refine go_putL dX12_ask_169 f12_772 sh82 rfl rfl ?_
      refine go_aload_n (x := 82) dX12_ask_172 rfl ?_
      refine go_iconst (v := 1) dX12_ask_173 rfl ?_
      refine go_putZ dX12_ask_174 f12_777 sh82 rfl rfl (by decide) ?_
      refine go_aload_n (x := 82) dX12_ask_177 rfl ?_
      refine go_iload_n (x := x1) dX12_ask_178 rfl ?_
      refine go_putI dX12_ask_179 f12_758 sh82 rfl rfl ?_
      refine go_iconst (v := 0) dX12_ask_182 rfl ?_
      refine go_istore_n dX12_ask_183 (Nat.le_of_ble_eq_true rfl) ?_
      show gg p l e s m args below meth c G (d + 1) MX12_ask Q 184 [some (.ref 82), some (.int x1), some (.int x2), some (.int 0)] [] (sI (sI (sL (sI (sI h 82 7 (h.1 82 5)) 82 8 (h.1 82 6)) 82 113 0) 82 114 1) 82 83 x1)
      exact vc
    · replace vc := vc.2 q
      refine go_ldc2 (v := (-1)) dX12_ask_162 nX12_775 ?_
      refine go_goto 169 dX12_ask_165 rfl ?_
      refine go_putL dX12_ask_169 f12_772 sh82 rfl rfl ?_
      refine go_aload_n (x := 82) dX12_ask_172 rfl ?_
      refine go_iconst (v := 1) dX12_ask_173 rfl ?_
      refine go_putZ dX12_ask_174 f12_777 sh82 rfl rfl (by decide) ?_
      refine go_aload_n (x := 82) dX12_ask_177 rfl ?_
      refine go_iload_n (x := x1) dX12_ask_178 rfl ?_
      refine go_putI dX12_ask_179 f12_758 sh82 rfl rfl ?_
      refine go_iconst (v := 0) dX12_ask_182 rfl ?_
      refine go_istore_n dX12_ask_183 (Nat.le_of_ble_eq_true rfl) ?_
      show gg p l e s m args below meth c G (d + 1) MX12_ask Q 184 [some (.ref 82), some (.int x1), some (.int x2), some (.int 0)] [] (sI (sI (sL (sI (sI h 82 7 (h.1 82 5)) 82 8 (h.1 82 6)) 82 113 (-1)) 82 114 1) 82 83 x1)
      exact vc
  · replace vc := vc.2 q
    refine go_ldc2 (v := (-1000000000000000)) dX12_ask_152 nX12_780 ?_
    exact go_lret dX12_ask_155 rfl vc rfl (Nat.le_refl _) (Nat.le_refl _)
set_option maxRecDepth 20000 in
theorem wX12_ask_184 {p : Program} {l : Launch} {e : Env} {s : State} {m : MethodId} {args : Array Value} {below : List Frame} {meth : Method} {c : Code} {G : gG} {d : Nat} {Q : Option Value → gH → Prop} {h : gH} {lk sp : Nat} {cd : Option Nat} {x1 : Int32} {x2 : Int32} {x3 : Int32} (hR : h.2.2 = gRF lk sp cd) (hlk : lk = 30 ∨ lk = 67) (hsp : sp = 30 ∨ sp = 67)  (vc : gC l G d MX12_cellMany [.ref 82] h (rI fun v1 h1 => h1.2.2 = (h).2.2 ∧ ((v1 ≤ x3 → Q (some (.long (h1.2.1 82 113))) h1) ∧ (¬ v1 ≤ x3 → gC l G d MX12_qTold [.ref 82, .int x3] h1 (rL fun v2 h2 => h2.2.2 = (h1).2.2 ∧ gC l G d MX12_qTakes [.ref 82, .int x2, .long v2, .int x3] h2 (rV fun h3 => h3.2.2 = (h2).2.2 ∧ gg p l e s m args below meth c G (d + 1) MX12_ask Q 184 [some (.ref 82), some (.int x1), some (.int x2), some (.int (x3 + 1))] [] h3)))))) : gg p l e s m args below meth c G (d + 1) MX12_ask Q 184 [some (.ref 82), some (.int x1), some (.int x2), some (.int x3)] [] h := by
  refine go_iload_n (x := x3) dX12_ask_184 rfl ?_
  refine go_aload_n (x := 82) dX12_ask_185 rfl ?_
  refine gvI0 MX12_cellMany dX12_ask_186 lX12_480 kX12_cellMany vX12_cellMany sh82 (by decide) rfl (Nat.le_of_ble_eq_true rfl) vc ?_
  intro v1 h1 vc
  obtain ⟨hR1, vc⟩ := vc
  replace hR := hR1.trans hR
  refine go_icmp_ge 209 dX12_ask_189 rfl (fun q => ?_) (fun q => ?_)
  · replace vc := vc.1 q
    refine go_aload_n (x := 82) dX12_ask_209 rfl ?_
    refine go_getL' (v := (h1.2.1 82 113)) dX12_ask_210 f12_772 sh82 (fun _ _ => rfl) rfl ?_
    exact go_lret dX12_ask_213 rfl vc rfl (Nat.le_refl _) (Nat.le_refl _)
  · replace vc := vc.2 q
    refine go_aload_n (x := 82) dX12_ask_192 rfl ?_
    refine go_iload_n (x := x2) dX12_ask_193 rfl ?_
    refine go_aload_n (x := 82) dX12_ask_194 rfl ?_
    refine go_iload_n (x := x3) dX12_ask_195 rfl ?_
    refine gvL1 MX12_qTold dX12_ask_196 lX12_788 kX12_qTold vX12_qTold sh82 (by decide) rfl (Nat.le_of_ble_eq_true rfl) vc ?_
    intro v2 h2 vc
    obtain ⟨hR2, vc⟩ := vc
    replace hR := hR2.trans hR
    refine go_iload_n (x := x3) dX12_ask_199 rfl ?_
    refine gvV3 MX12_qTakes dX12_ask_200 lX12_792 kX12_qTakes vX12_qTakes sh82 (by decide) rfl (Nat.le_of_ble_eq_true rfl) vc ?_
    intro h3 vc
    obtain ⟨hR3, vc⟩ := vc
    replace hR := hR3.trans hR
    refine go_iinc (x := x3) dX12_ask_203 rfl ?_
    show gg p l e s m args below meth c G (d + 1) MX12_ask Q 206 [some (.ref 82), some (.int x1), some (.int x2), some (.int (x3 + 1))] [] h3
    refine go_goto 184 dX12_ask_206 rfl ?_
    exact vc
