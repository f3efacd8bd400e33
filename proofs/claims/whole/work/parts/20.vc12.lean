set_option maxRecDepth 20000 in
theorem wX12_keeps_0 {p : Program} {l : Launch} {e : Env} {s : State} {m : MethodId} {args : Array Value} {below : List Frame} {meth : Method} {c : Code} {G : gG} {d : Nat} {Q : Option Value → gH → Prop} {h : gH} {lk sp : Nat} {cd : Option Nat}  (hR : h.2.2 = gRF lk sp cd) (hlk : lk = 30 ∨ lk = 67) (hsp : sp = 30 ∨ sp = 67)  (vc : gg p l e s m args below meth c G d MX12_keeps Q 15 [some (.ref 82), some (.int 0)] [] (sI h 82 81 (((h.1 82 81) + 1) - ((h.1 82 81) + 1) / 20 * 20))) : gg p l e s m args below meth c G d MX12_keeps Q 0 [some (.ref 82), none] [] h := by
  refine go_aload_n (x := 82) dX12_keeps_0 rfl ?_
  refine go_aload_n (x := 82) dX12_keeps_1 rfl ?_
  refine go_getI' (v := (h.1 82 81)) dX12_keeps_2 f12_653 sh82 (fun _ _ => rfl) rfl ?_
  refine go_iconst (v := 1) dX12_keeps_5 rfl ?_
  refine go_iadd dX12_keeps_6 ?_
  refine go_bipush (v := 20) dX12_keeps_7 rfl ?_
  refine go_irem dX12_keeps_9 (by decide) ?_
  refine go_putI dX12_keeps_10 f12_653 sh82 rfl rfl ?_
  refine go_iconst (v := 0) dX12_keeps_13 rfl ?_
  refine go_istore_n dX12_keeps_14 (Nat.le_of_ble_eq_true rfl) ?_
  show gg p l e s m args below meth c G d MX12_keeps Q 15 [some (.ref 82), some (.int 0)] [] (sI h 82 81 (((h.1 82 81) + 1) - ((h.1 82 81) + 1) / 20 * 20))
  exact vc
set_option maxRecDepth 20000 in
theorem wX12_keeps_15 {p : Program} {l : Launch} {e : Env} {s : State} {m : MethodId} {args : Array Value} {below : List Frame} {meth : Method} {c : Code} {G : gG} {d : Nat} {Q : Option Value → gH → Prop} {h : gH} {lk sp : Nat} {cd : Option Nat} {x1 : Int32} (hR : h.2.2 = gRF lk sp cd) (hlk : lk = 30 ∨ lk = 67) (hsp : sp = 30 ∨ sp = 67)  (vc : ((187 ≤ x1 → ((20 ≤ (h.1 82 80) → Q none h) ∧ (¬ 20 ≤ (h.1 82 80) → Q none (sI h 82 80 ((h.1 82 80) + 1))))) ∧ (¬ 187 ≤ x1 → (vp_in x1 187 ∧ (vp_in (((187 * (h.1 82 81)) + x1)) 3740 ∧ gg p l e s m args below meth c G d MX12_keeps Q 15 [some (.ref 82), some (.int (x1 + 1))] [] (sI h 142 (((187 * (h.1 82 81)) + x1) : Int32).toNatClampNeg (h.1 133 x1.toNatClampNeg))))))) : gg p l e s m args below meth c G d MX12_keeps Q 15 [some (.ref 82), some (.int x1)] [] h := by
  refine go_iload_n (x := x1) dX12_keeps_15 rfl ?_
  refine go_sipush (v := 187) dX12_keeps_16 rfl ?_
  refine go_icmp_ge 49 dX12_keeps_19 rfl (fun q => ?_) (fun q => ?_)
  · replace vc := vc.1 q
    refine go_aload_n (x := 82) dX12_keeps_49 rfl ?_
    refine go_getI' (v := (h.1 82 80)) dX12_keeps_50 f12_425 sh82 (fun _ _ => rfl) rfl ?_
    refine go_bipush (v := 20) dX12_keeps_53 rfl ?_
    refine go_icmp_ge 68 dX12_keeps_55 rfl (fun q => ?_) (fun q => ?_)
    · replace vc := vc.1 q
      exact go_vret dX12_keeps_68 rfl vc rfl (Nat.le_refl _) (Nat.le_refl _)
    · replace vc := vc.2 q
      refine go_aload_n (x := 82) dX12_keeps_58 rfl ?_
      refine go_dup dX12_keeps_59 rfl ?_
      refine go_getI' (v := (h.1 82 80)) dX12_keeps_60 f12_425 sh82 (fun _ _ => rfl) rfl ?_
      refine go_iconst (v := 1) dX12_keeps_63 rfl ?_
      refine go_iadd dX12_keeps_64 ?_
      refine go_putI dX12_keeps_65 f12_425 sh82 rfl rfl ?_
      exact go_vret dX12_keeps_68 rfl vc rfl (Nat.le_refl _) (Nat.le_refl _)
  · replace vc := vc.2 q
    refine go_aload_n (x := 82) dX12_keeps_22 rfl ?_
    refine go_getR (x := 142) dX12_keeps_23 f12_193 sh82 (fun _ _ => rfl) (rf82_79 hR) ?_
    refine go_sipush (v := 187) dX12_keeps_26 rfl ?_
    refine go_aload_n (x := 82) dX12_keeps_29 rfl ?_
    refine go_getI' (v := (h.1 82 81)) dX12_keeps_30 f12_653 sh82 (fun _ _ => rfl) rfl ?_
    refine go_imul dX12_keeps_33 ?_
    refine go_iload_n (x := x1) dX12_keeps_34 rfl ?_
    refine go_iadd dX12_keeps_35 ?_
    refine go_aload_n (x := 82) dX12_keeps_36 rfl ?_
    refine go_getR (x := 133) dX12_keeps_37 f12_166 sh82 (fun _ _ => rfl) (rf82_68 hR) ?_
    refine go_iload_n (x := x1) dX12_keeps_40 rfl ?_
    refine go_iald' (v := (h.1 133 x1.toNatClampNeg)) dX12_keeps_41 sh133 vc.1 rfl ?_
    have vc := vc.2
    refine go_iast dX12_keeps_42 sh142 vc.1 ?_
    have vc := vc.2
    show gg p l e s m args below meth c G d MX12_keeps Q 43 [some (.ref 82), some (.int x1)] [] (sI h 142 (((187 * (h.1 82 81)) + x1) : Int32).toNatClampNeg (h.1 133 x1.toNatClampNeg))
    refine go_iinc (x := x1) dX12_keeps_43 rfl ?_
    show gg p l e s m args below meth c G d MX12_keeps Q 46 [some (.ref 82), some (.int (x1 + 1))] [] (sI h 142 (((187 * (h.1 82 81)) + x1) : Int32).toNatClampNeg (h.1 133 x1.toNatClampNeg))
    refine go_goto 15 dX12_keeps_46 rfl ?_
    exact vc
set_option maxRecDepth 20000 in
theorem wX12_undo_0 {p : Program} {l : Launch} {e : Env} {s : State} {m : MethodId} {args : Array Value} {below : List Frame} {meth : Method} {c : Code} {G : gG} {d : Nat} {Q : Option Value → gH → Prop} {h : gH} {lk sp : Nat} {cd : Option Nat}  (hR : h.2.2 = gRF lk sp cd) (hlk : lk = 30 ∨ lk = 67) (hsp : sp = 30 ∨ sp = 67)  (vc : ((¬ (h.1 82 80) = 0 → gg p l e s m args below meth c G d MX12_undo Q 21 [some (.ref 82), some (.int 0)] [] h) ∧ ((h.1 82 80) = 0 → Q (some (.int 0)) (sI h 84 4 ((h.1 84 4) + 1))))) : gg p l e s m args below meth c G d MX12_undo Q 0 [some (.ref 82), none] [] h := by
  refine go_aload_n (x := 82) dX12_undo_0 rfl ?_
  refine go_getI' (v := (h.1 82 80)) dX12_undo_1 f12_425 sh82 (fun _ _ => rfl) rfl ?_
  refine go_if_ne 19 dX12_undo_4 rfl (fun q => ?_) (fun q => ?_)
  · replace vc := vc.1 q
    refine go_iconst (v := 0) dX12_undo_19 rfl ?_
    refine go_istore_n dX12_undo_20 (Nat.le_of_ble_eq_true rfl) ?_
    show gg p l e s m args below meth c G d MX12_undo Q 21 [some (.ref 82), some (.int 0)] [] h
    exact vc
  · replace vc := vc.2 q
    refine go_aload_n (x := 82) dX12_undo_7 rfl ?_
    refine go_getR (x := 84) dX12_undo_8 f12_17 sh82 (fun _ _ => rfl) (rf82_9 hR) ?_
    refine go_iconst (v := 4) dX12_undo_11 rfl ?_
    refine go_dup2 dX12_undo_12 rfl rfl ?_
    refine go_iald' (v := (h.1 84 4)) dX12_undo_13 sh84 (by unfold vp_in; decide) rfl ?_
    refine go_iconst (v := 1) dX12_undo_14 rfl ?_
    refine go_iadd dX12_undo_15 ?_
    refine go_iast dX12_undo_16 sh84 (by unfold vp_in; decide) ?_
    refine go_iconst (v := 0) dX12_undo_17 rfl ?_
    exact go_zret dX12_undo_18 rfl (by decide) vc rfl (Nat.le_refl _) (Nat.le_refl _)
set_option maxRecDepth 20000 in
theorem wX12_undo_21 {p : Program} {l : Launch} {e : Env} {s : State} {m : MethodId} {args : Array Value} {below : List Frame} {meth : Method} {c : Code} {G : gG} {d : Nat} {Q : Option Value → gH → Prop} {h : gH} {lk sp : Nat} {cd : Option Nat} {x1 : Int32} (hR : h.2.2 = gRF lk sp cd) (hlk : lk = 30 ∨ lk = 67) (hsp : sp = 30 ∨ sp = 67)  (vc : ((187 ≤ x1 → Q (some (.int 1)) (sI (sI h 82 81 ((((h.1 82 81) + 20) - 1) - (((h.1 82 81) + 20) - 1) / 20 * 20)) 82 80 ((h.1 82 80) - 1))) ∧ (¬ 187 ≤ x1 → (vp_in (((187 * (h.1 82 81)) + x1)) 3740 ∧ (vp_in x1 187 ∧ gg p l e s m args below meth c G d MX12_undo Q 21 [some (.ref 82), some (.int (x1 + 1))] [] (sI h 133 x1.toNatClampNeg (h.1 142 (((187 * (h.1 82 81)) + x1) : Int32).toNatClampNeg))))))) : gg p l e s m args below meth c G d MX12_undo Q 21 [some (.ref 82), some (.int x1)] [] h := by
  refine go_iload_n (x := x1) dX12_undo_21 rfl ?_
  refine go_sipush (v := 187) dX12_undo_22 rfl ?_
  refine go_icmp_ge 55 dX12_undo_25 rfl (fun q => ?_) (fun q => ?_)
  · replace vc := vc.1 q
    refine go_aload_n (x := 82) dX12_undo_55 rfl ?_
    refine go_aload_n (x := 82) dX12_undo_56 rfl ?_
    refine go_getI' (v := (h.1 82 81)) dX12_undo_57 f12_653 sh82 (fun _ _ => rfl) rfl ?_
    refine go_bipush (v := 20) dX12_undo_60 rfl ?_
    refine go_iadd dX12_undo_62 ?_
    refine go_iconst (v := 1) dX12_undo_63 rfl ?_
    refine go_isub dX12_undo_64 ?_
    refine go_bipush (v := 20) dX12_undo_65 rfl ?_
    refine go_irem dX12_undo_67 (by decide) ?_
    refine go_putI dX12_undo_68 f12_653 sh82 rfl rfl ?_
    refine go_aload_n (x := 82) dX12_undo_71 rfl ?_
    refine go_dup dX12_undo_72 rfl ?_
    refine go_getI' (v := (h.1 82 80)) dX12_undo_73 f12_425 sh82 (fun _ _ => rfl) rfl ?_
    refine go_iconst (v := 1) dX12_undo_76 rfl ?_
    refine go_isub dX12_undo_77 ?_
    refine go_putI dX12_undo_78 f12_425 sh82 rfl rfl ?_
    refine go_iconst (v := 1) dX12_undo_81 rfl ?_
    exact go_zret dX12_undo_82 rfl (by decide) vc rfl (Nat.le_refl _) (Nat.le_refl _)
  · replace vc := vc.2 q
    refine go_aload_n (x := 82) dX12_undo_28 rfl ?_
    refine go_getR (x := 133) dX12_undo_29 f12_166 sh82 (fun _ _ => rfl) (rf82_68 hR) ?_
    refine go_iload_n (x := x1) dX12_undo_32 rfl ?_
    refine go_aload_n (x := 82) dX12_undo_33 rfl ?_
    refine go_getR (x := 142) dX12_undo_34 f12_193 sh82 (fun _ _ => rfl) (rf82_79 hR) ?_
    refine go_sipush (v := 187) dX12_undo_37 rfl ?_
    refine go_aload_n (x := 82) dX12_undo_40 rfl ?_
    refine go_getI' (v := (h.1 82 81)) dX12_undo_41 f12_653 sh82 (fun _ _ => rfl) rfl ?_
    refine go_imul dX12_undo_44 ?_
    refine go_iload_n (x := x1) dX12_undo_45 rfl ?_
    refine go_iadd dX12_undo_46 ?_
    refine go_iald' (v := (h.1 142 (((187 * (h.1 82 81)) + x1) : Int32).toNatClampNeg)) dX12_undo_47 sh142 vc.1 rfl ?_
    have vc := vc.2
    refine go_iast dX12_undo_48 sh133 vc.1 ?_
    have vc := vc.2
    show gg p l e s m args below meth c G d MX12_undo Q 49 [some (.ref 82), some (.int x1)] [] (sI h 133 x1.toNatClampNeg (h.1 142 (((187 * (h.1 82 81)) + x1) : Int32).toNatClampNeg))
    refine go_iinc (x := x1) dX12_undo_49 rfl ?_
    show gg p l e s m args below meth c G d MX12_undo Q 52 [some (.ref 82), some (.int (x1 + 1))] [] (sI h 133 x1.toNatClampNeg (h.1 142 (((187 * (h.1 82 81)) + x1) : Int32).toNatClampNeg))
    refine go_goto 21 dX12_undo_52 rfl ?_
    exact vc
set_option maxRecDepth 20000 in
theorem wX12_refuses_0 {p : Program} {l : Launch} {e : Env} {s : State} {m : MethodId} {args : Array Value} {below : List Frame} {meth : Method} {c : Code} {G : gG} {d : Nat} {Q : Option Value → gH → Prop} {h : gH} {lk sp : Nat} {cd : Option Nat} {a1 : Int32} (hR : h.2.2 = gRF lk sp cd) (hlk : lk = 30 ∨ lk = 67) (hsp : sp = 30 ∨ sp = 67)  (vc : (vp_in a1 6 ∧ (vp_in a1 6 ∧ Q (some (.int (-1))) (sI h 84 a1.toNatClampNeg ((h.1 84 a1.toNatClampNeg) + 1))))) : gg p l e s m args below meth c G d MX12_refuses Q 0 [some (.ref 82), some (.int a1)] [] h := by
  refine go_aload_n (x := 82) dX12_refuses_0 rfl ?_
  refine go_getR (x := 84) dX12_refuses_1 f12_17 sh82 (fun _ _ => rfl) (rf82_9 hR) ?_
  refine go_iload_n (x := a1) dX12_refuses_4 rfl ?_
  refine go_dup2 dX12_refuses_5 rfl rfl ?_
  refine go_iald' (v := (h.1 84 a1.toNatClampNeg)) dX12_refuses_6 sh84 vc.1 rfl ?_
  have vc := vc.2
  refine go_iconst (v := 1) dX12_refuses_7 rfl ?_
  refine go_iadd dX12_refuses_8 ?_
  refine go_iast dX12_refuses_9 sh84 vc.1 ?_
  have vc := vc.2
  show gg p l e s m args below meth c G d MX12_refuses Q 10 [some (.ref 82), some (.int a1)] [] (sI h 84 a1.toNatClampNeg ((h.1 84 a1.toNatClampNeg) + 1))
  refine go_iconst (v := (-1)) dX12_refuses_10 rfl ?_
  exact go_iret dX12_refuses_11 rfl vc rfl (Nat.le_refl _) (Nat.le_refl _)
set_option maxRecDepth 20000 in
theorem wX12_go_0 {p : Program} {l : Launch} {e : Env} {s : State} {m : MethodId} {args : Array Value} {below : List Frame} {meth : Method} {c : Code} {G : gG} {d : Nat} {Q : Option Value → gH → Prop} {h : gH} {lk sp : Nat} {cd : Option Nat} {a1 : Int32} {a2 : Int32} (hR : h.2.2 = gRF lk sp cd) (hlk : lk = 30 ∨ lk = 67) (hsp : sp = 30 ∨ sp = 67)  (vc : gC l G d MX12_isBoat [.ref 82, .int a1] h (rI fun v1 h1 => h1.2.2 = (h).2.2 ∧ ((v1 = 0 → gC l G d MX12_refuses [.ref 82, .int 2] h1 (rI fun v2 h2 => h2.2.2 = (h1).2.2 ∧ Q (some (.int v2)) h2)) ∧ (¬ v1 = 0 → gC l G d MX12_cellOf [.ref 82, .int a1] h1 (rI fun v3 h3 => h3.2.2 = (h1).2.2 ∧ gC l G d MX12_isBeside [.ref 82, .int v3, .int a2] h3 (rI fun v4 h4 => h4.2.2 = (h3).2.2 ∧ ((¬ v4 = 0 → gC l G d MX12_keeps [.ref 82] h4 (rV fun h5 => h5.2.2 = (h4).2.2 ∧ gC l G d MX12_tries [.ref 82, .int a1, .int a2, .int (-1)] h5 (rI fun v6 h6 => h6.2.2 = (h5).2.2 ∧ ((v6 = 0 → Q (some (.int 0)) h6) ∧ (¬ v6 = 0 → Q (some (.int 1)) h6))))) ∧ (v4 = 0 → gC l G d MX12_refuses [.ref 82, .int 2] h4 (rI fun v7 h7 => h7.2.2 = (h4).2.2 ∧ Q (some (.int v7)) h7))))))))) : gg p l e s m args below meth c G (d + 1) MX12_go Q 0 [some (.ref 82), some (.int a1), some (.int a2)] [] h := by
  refine go_aload_n (x := 82) dX12_go_0 rfl ?_
  refine go_iload_n (x := a1) dX12_go_1 rfl ?_
  refine gvI1 MX12_isBoat dX12_go_2 lX12_564 kX12_isBoat vX12_isBoat sh82 (by decide) rfl (Nat.le_of_ble_eq_true rfl) vc ?_
  intro v1 h1 vc
  obtain ⟨hR1, vc⟩ := vc
  replace hR := hR1.trans hR
  refine go_if_eq 21 dX12_go_5 rfl (fun q => ?_) (fun q => ?_)
  · replace vc := vc.1 q
    refine go_aload_n (x := 82) dX12_go_21 rfl ?_
    refine go_iconst (v := 2) dX12_go_22 rfl ?_
    refine gvI1 MX12_refuses dX12_go_23 lX12_656 kX12_refuses vX12_refuses sh82 (by decide) rfl (Nat.le_of_ble_eq_true rfl) vc ?_
    intro v2 h2 vc
    obtain ⟨hR2, vc⟩ := vc
    replace hR := hR2.trans hR
    exact go_iret dX12_go_26 rfl vc rfl (Nat.le_refl _) (Nat.le_refl _)
  · replace vc := vc.2 q
    refine go_aload_n (x := 82) dX12_go_8 rfl ?_
    refine go_aload_n (x := 82) dX12_go_9 rfl ?_
    refine go_iload_n (x := a1) dX12_go_10 rfl ?_
    refine gvI1 MX12_cellOf dX12_go_11 lX12_504 kX12_cellOf vX12_cellOf sh82 (by decide) rfl (Nat.le_of_ble_eq_true rfl) vc ?_
    intro v3 h3 vc
    obtain ⟨hR3, vc⟩ := vc
    replace hR := hR3.trans hR
    refine go_iload_n (x := a2) dX12_go_14 rfl ?_
    refine gvI2 MX12_isBeside dX12_go_15 lX12_608 kX12_isBeside vX12_isBeside sh82 (by decide) rfl (Nat.le_of_ble_eq_true rfl) vc ?_
    intro v4 h4 vc
    obtain ⟨hR4, vc⟩ := vc
    replace hR := hR4.trans hR
    refine go_if_ne 27 dX12_go_18 rfl (fun q => ?_) (fun q => ?_)
    · replace vc := vc.1 q
      refine go_aload_n (x := 82) dX12_go_27 rfl ?_
      refine gvV0 MX12_keeps dX12_go_28 lX12_659 kX12_keeps vX12_keeps sh82 (by decide) rfl (Nat.le_of_ble_eq_true rfl) vc ?_
      intro h5 vc
      obtain ⟨hR5, vc⟩ := vc
      replace hR := hR5.trans hR
      refine go_aload_n (x := 82) dX12_go_31 rfl ?_
      refine go_iload_n (x := a1) dX12_go_32 rfl ?_
      refine go_iload_n (x := a2) dX12_go_33 rfl ?_
      refine go_iconst (v := (-1)) dX12_go_34 rfl ?_
      refine gvI3 MX12_tries dX12_go_35 lX12_612 kX12_tries vX12_tries sh82 (by decide) rfl (Nat.le_of_ble_eq_true rfl) vc ?_
      intro v6 h6 vc
      obtain ⟨hR6, vc⟩ := vc
      replace hR := hR6.trans hR
      refine go_if_eq 45 dX12_go_38 rfl (fun q => ?_) (fun q => ?_)
      · replace vc := vc.1 q
        refine go_iconst (v := 0) dX12_go_45 rfl ?_
        exact go_iret dX12_go_46 rfl vc rfl (Nat.le_refl _) (Nat.le_refl _)
      · replace vc := vc.2 q
        refine go_iconst (v := 1) dX12_go_41 rfl ?_
        refine go_goto 46 dX12_go_42 rfl ?_
        exact go_iret dX12_go_46 rfl vc rfl (Nat.le_refl _) (Nat.le_refl _)
    · replace vc := vc.2 q
      refine go_aload_n (x := 82) dX12_go_21 rfl ?_
      refine go_iconst (v := 2) dX12_go_22 rfl ?_
      refine gvI1 MX12_refuses dX12_go_23 lX12_656 kX12_refuses vX12_refuses sh82 (by decide) rfl (Nat.le_of_ble_eq_true rfl) vc ?_
      intro v7 h7 vc
      obtain ⟨hR7, vc⟩ := vc
      replace hR := hR7.trans hR
      exact go_iret dX12_go_26 rfl vc rfl (Nat.le_refl _) (Nat.le_refl _)
set_option maxRecDepth 20000 in
theorem wX12_file_0 {p : Program} {l : Launch} {e : Env} {s : State} {m : MethodId} {args : Array Value} {below : List Frame} {meth : Method} {c : Code} {G : gG} {d : Nat} {Q : Option Value → gH → Prop} {h : gH} {lk sp : Nat} {cd : Option Nat} {a1 : Int32} (hR : h.2.2 = gRF lk sp cd) (hlk : lk = 30 ∨ lk = 67) (hsp : sp = 30 ∨ sp = 67)  (vc : gC l G d MX12_isIn [.long ((h.1 82 1) : Int32).toInt64, .long 1, .long 6] (sI h 82 1 0) (rI fun v1 h1 => h1.2.2 = ((sI h 82 1 0)).2.2 ∧ gg p l e s m args below meth c G (d + 1) MX12_file Q 26 [some (.ref 82), some (.int a1), some (.int (h.1 82 1)), some (.int 0), some (.int v1), some (.int 0)] [] h1)) : gg p l e s m args below meth c G (d + 1) MX12_file Q 0 [some (.ref 82), some (.int a1), none, none, none, none] [] h := by
  refine go_aload_n (x := 82) dX12_file_0 rfl ?_
  refine go_getI' (v := (h.1 82 1)) dX12_file_1 f12_275 sh82 (fun _ _ => rfl) rfl ?_
  refine go_istore_n dX12_file_4 (Nat.le_of_ble_eq_true rfl) ?_
  show gg p l e s m args below meth c G (d + 1) MX12_file Q 5 [some (.ref 82), some (.int a1), some (.int (h.1 82 1)), none, none, none] [] h
  refine go_aload_n (x := 82) dX12_file_5 rfl ?_
  refine go_iconst (v := 0) dX12_file_6 rfl ?_
  refine go_putI dX12_file_7 f12_275 sh82 rfl rfl ?_
  refine go_iconst (v := 0) dX12_file_10 rfl ?_
  refine go_istore_n dX12_file_11 (Nat.le_of_ble_eq_true rfl) ?_
  show gg p l e s m args below meth c G (d + 1) MX12_file Q 12 [some (.ref 82), some (.int a1), some (.int (h.1 82 1)), some (.int 0), none, none] [] (sI h 82 1 0)
  refine go_iload_n (x := (h.1 82 1)) dX12_file_12 rfl ?_
  refine go_i2l dX12_file_13 ?_
  refine go_lconst (v := 1) dX12_file_14 rfl ?_
  refine go_ldc2 (v := 6) dX12_file_15 nX12_662 ?_
  refine gsI3 MX12_isIn dX12_file_18 lX12_321 kX12_isIn sX12_isIn (Nat.le_of_ble_eq_true rfl) vc ?_
  intro v1 h1 vc
  obtain ⟨hR1, vc⟩ := vc
  replace hR := hR1.trans hR
  refine go_istore dX12_file_21 (Nat.le_of_ble_eq_true rfl) ?_
  show gg p l e s m args below meth c G (d + 1) MX12_file Q 23 [some (.ref 82), some (.int a1), some (.int (h.1 82 1)), some (.int 0), some (.int v1), none] [] h1
  refine go_iconst (v := 0) dX12_file_23 rfl ?_
  refine go_istore dX12_file_24 (Nat.le_of_ble_eq_true rfl) ?_
  show gg p l e s m args below meth c G (d + 1) MX12_file Q 26 [some (.ref 82), some (.int a1), some (.int (h.1 82 1)), some (.int 0), some (.int v1), some (.int 0)] [] h1
  exact vc
set_option maxRecDepth 20000 in
theorem wX12_file_26 {p : Program} {l : Launch} {e : Env} {s : State} {m : MethodId} {args : Array Value} {below : List Frame} {meth : Method} {c : Code} {G : gG} {d : Nat} {Q : Option Value → gH → Prop} {h : gH} {lk sp : Nat} {cd : Option Nat} {x1 : Int32} {x2 : Int32} {x3 : Int32} {x4 : Int32} {x5 : Int32} (hR : h.2.2 = gRF lk sp cd) (hlk : lk = 30 ∨ lk = 67) (hsp : sp = 30 ∨ sp = 67)  (vc : ((x2 ≤ x5 → ((x4 = 0 → gC l G d MX12_refuses [.ref 82, .int 2] h (rI fun v1 h1 => h1.2.2 = (h).2.2 ∧ Q (some (.int v1)) h1)) ∧ (¬ x4 = 0 → gC l G d MX12_canFile [.ref 82, .int x3, .int x1] h (rI fun v2 h2 => h2.2.2 = (h).2.2 ∧ ((¬ v2 = 0 → gC l G d MX12_keeps [.ref 82] h2 (rV fun h3 => h3.2.2 = (h2).2.2 ∧ gC l G d MX12_files [.ref 82, .int x2, .int x1] h3 (rI fun v4 h4 => h4.2.2 = (h3).2.2 ∧ Q (some (.int v4)) h4))) ∧ (v2 = 0 → gC l G d MX12_refuses [.ref 82, .int 2] h2 (rI fun v5 h5 => h5.2.2 = (h2).2.2 ∧ Q (some (.int v5)) h5))))))) ∧ (¬ x2 ≤ x5 → ((x4 = 0 → ((x4 = 0 → gC l G d MX12_refuses [.ref 82, .int 2] h (rI fun v6 h6 => h6.2.2 = (h).2.2 ∧ Q (some (.int v6)) h6)) ∧ (¬ x4 = 0 → gC l G d MX12_canFile [.ref 82, .int x3, .int x1] h (rI fun v7 h7 => h7.2.2 = (h).2.2 ∧ ((¬ v7 = 0 → gC l G d MX12_keeps [.ref 82] h7 (rV fun h8 => h8.2.2 = (h7).2.2 ∧ gC l G d MX12_files [.ref 82, .int x2, .int x1] h8 (rI fun v9 h9 => h9.2.2 = (h8).2.2 ∧ Q (some (.int v9)) h9))) ∧ (v7 = 0 → gC l G d MX12_refuses [.ref 82, .int 2] h7 (rI fun v10 h10 => h10.2.2 = (h7).2.2 ∧ Q (some (.int v10)) h10))))))) ∧ (¬ x4 = 0 → (vp_in x5 1600 ∧ gC l G d MX12_isBoat [.ref 82, .int (h.1 83 x5.toNatClampNeg)] h (rI fun v11 h11 => h11.2.2 = (h).2.2 ∧ ((v11 = 0 → gg p l e s m args below meth c G (d + 1) MX12_file Q 26 [some (.ref 82), some (.int x1), some (.int x2), some (.int x3), some (.int 0), some (.int (x5 + 1))] [] h11) ∧ (¬ v11 = 0 → (vp_in x5 1600 ∧ ((¬ ((x3 >>> ((h11.1 83 x5.toNatClampNeg) &&& 31)) &&& 1) = 0 → gg p l e s m args below meth c G (d + 1) MX12_file Q 26 [some (.ref 82), some (.int x1), some (.int x2), some (.int x3), some (.int 0), some (.int (x5 + 1))] [] h11) ∧ (((x3 >>> ((h11.1 83 x5.toNatClampNeg) &&& 31)) &&& 1) = 0 → (vp_in x5 1600 ∧ (vp_in x5 1600 ∧ (vp_in x5 6 ∧ gg p l e s m args below meth c G (d + 1) MX12_file Q 26 [some (.ref 82), some (.int x1), some (.int x2), some (.int (x3 ||| (1 <<< ((h11.1 83 x5.toNatClampNeg) &&& 31)))), some (.int 1), some (.int (x5 + 1))] [] (sI h11 137 x5.toNatClampNeg (h11.1 83 x5.toNatClampNeg))))))))))))))))) : gg p l e s m args below meth c G (d + 1) MX12_file Q 26 [some (.ref 82), some (.int x1), some (.int x2), some (.int x3), some (.int x4), some (.int x5)] [] h := by
  refine go_iload (x := x5) dX12_file_26 rfl ?_
  refine go_iload_n (x := x2) dX12_file_28 rfl ?_
  refine go_icmp_ge 112 dX12_file_29 rfl (fun q => ?_) (fun q => ?_)
  · replace vc := vc.1 q
    refine go_iload (x := x4) dX12_file_112 rfl ?_
    refine go_if_eq 126 dX12_file_114 rfl (fun q => ?_) (fun q => ?_)
    · replace vc := vc.1 q
      refine go_aload_n (x := 82) dX12_file_126 rfl ?_
      refine go_iconst (v := 2) dX12_file_127 rfl ?_
      refine gvI1 MX12_refuses dX12_file_128 lX12_656 kX12_refuses vX12_refuses sh82 (by decide) rfl (Nat.le_of_ble_eq_true rfl) vc ?_
      intro v1 h1 vc
      obtain ⟨hR1, vc⟩ := vc
      replace hR := hR1.trans hR
      exact go_iret dX12_file_131 rfl vc rfl (Nat.le_refl _) (Nat.le_refl _)
    · replace vc := vc.2 q
      refine go_aload_n (x := 82) dX12_file_117 rfl ?_
      refine go_iload_n (x := x3) dX12_file_118 rfl ?_
      refine go_iload_n (x := x1) dX12_file_119 rfl ?_
      refine gvI2 MX12_canFile dX12_file_120 lX12_615 kX12_canFile vX12_canFile sh82 (by decide) rfl (Nat.le_of_ble_eq_true rfl) vc ?_
      intro v2 h2 vc
      obtain ⟨hR2, vc⟩ := vc
      replace hR := hR2.trans hR
      refine go_if_ne 132 dX12_file_123 rfl (fun q => ?_) (fun q => ?_)
      · replace vc := vc.1 q
        refine go_aload_n (x := 82) dX12_file_132 rfl ?_
        refine gvV0 MX12_keeps dX12_file_133 lX12_659 kX12_keeps vX12_keeps sh82 (by decide) rfl (Nat.le_of_ble_eq_true rfl) vc ?_
        intro h3 vc
        obtain ⟨hR3, vc⟩ := vc
        replace hR := hR3.trans hR
        refine go_aload_n (x := 82) dX12_file_136 rfl ?_
        refine go_iload_n (x := x2) dX12_file_137 rfl ?_
        refine go_iload_n (x := x1) dX12_file_138 rfl ?_
        refine gvI2 MX12_files dX12_file_139 lX12_627 kX12_files vX12_files sh82 (by decide) rfl (Nat.le_of_ble_eq_true rfl) vc ?_
        intro v4 h4 vc
        obtain ⟨hR4, vc⟩ := vc
        replace hR := hR4.trans hR
        exact go_iret dX12_file_142 rfl vc rfl (Nat.le_refl _) (Nat.le_refl _)
      · replace vc := vc.2 q
        refine go_aload_n (x := 82) dX12_file_126 rfl ?_
        refine go_iconst (v := 2) dX12_file_127 rfl ?_
        refine gvI1 MX12_refuses dX12_file_128 lX12_656 kX12_refuses vX12_refuses sh82 (by decide) rfl (Nat.le_of_ble_eq_true rfl) vc ?_
        intro v5 h5 vc
        obtain ⟨hR5, vc⟩ := vc
        replace hR := hR5.trans hR
        exact go_iret dX12_file_131 rfl vc rfl (Nat.le_refl _) (Nat.le_refl _)
  · replace vc := vc.2 q
    refine go_iload (x := x4) dX12_file_32 rfl ?_
    refine go_if_eq 112 dX12_file_34 rfl (fun q => ?_) (fun q => ?_)
    · replace vc := vc.1 q
      refine go_iload (x := x4) dX12_file_112 rfl ?_
      refine go_if_eq 126 dX12_file_114 rfl (fun q => ?_) (fun q => ?_)
      · replace vc := vc.1 q
        refine go_aload_n (x := 82) dX12_file_126 rfl ?_
        refine go_iconst (v := 2) dX12_file_127 rfl ?_
        refine gvI1 MX12_refuses dX12_file_128 lX12_656 kX12_refuses vX12_refuses sh82 (by decide) rfl (Nat.le_of_ble_eq_true rfl) vc ?_
        intro v6 h6 vc
        obtain ⟨hR6, vc⟩ := vc
        replace hR := hR6.trans hR
        exact go_iret dX12_file_131 rfl vc rfl (Nat.le_refl _) (Nat.le_refl _)
      · replace vc := vc.2 q
        refine go_aload_n (x := 82) dX12_file_117 rfl ?_
        refine go_iload_n (x := x3) dX12_file_118 rfl ?_
        refine go_iload_n (x := x1) dX12_file_119 rfl ?_
        refine gvI2 MX12_canFile dX12_file_120 lX12_615 kX12_canFile vX12_canFile sh82 (by decide) rfl (Nat.le_of_ble_eq_true rfl) vc ?_
        intro v7 h7 vc
        obtain ⟨hR7, vc⟩ := vc
        replace hR := hR7.trans hR
        refine go_if_ne 132 dX12_file_123 rfl (fun q => ?_) (fun q => ?_)
        · replace vc := vc.1 q
          refine go_aload_n (x := 82) dX12_file_132 rfl ?_
          refine gvV0 MX12_keeps dX12_file_133 lX12_659 kX12_keeps vX12_keeps sh82 (by decide) rfl (Nat.le_of_ble_eq_true rfl) vc ?_
          intro h8 vc
          obtain ⟨hR8, vc⟩ := vc
          replace hR := hR8.trans hR
          refine go_aload_n (x := 82) dX12_file_136 rfl ?_
          refine go_iload_n (x := x2) dX12_file_137 rfl ?_
          refine go_iload_n (x := x1) dX12_file_138 rfl ?_
          refine gvI2 MX12_files dX12_file_139 lX12_627 kX12_files vX12_files sh82 (by decide) rfl (Nat.le_of_ble_eq_true rfl) vc ?_
          intro v9 h9 vc
          obtain ⟨hR9, vc⟩ := vc
          replace hR := hR9.trans hR
          exact go_iret dX12_file_142 rfl vc rfl (Nat.le_refl _) (Nat.le_refl _)
        · replace vc := vc.2 q
          refine go_aload_n (x := 82) dX12_file_126 rfl ?_
          refine go_iconst (v := 2) dX12_file_127 rfl ?_
          refine gvI1 MX12_refuses dX12_file_128 lX12_656 kX12_refuses vX12_refuses sh82 (by decide) rfl (Nat.le_of_ble_eq_true rfl) vc ?_
          intro v10 h10 vc
          obtain ⟨hR10, vc⟩ := vc
          replace hR := hR10.trans hR
          exact go_iret dX12_file_131 rfl vc rfl (Nat.le_refl _) (Nat.le_refl _)
    · replace vc := vc.2 q
      refine go_aload_n (x := 82) dX12_file_37 rfl ?_
      refine go_aload_n (x := 82) dX12_file_38 rfl ?_
      refine go_getR (x := 83) dX12_file_39 f12_7 sh82 (fun _ _ => rfl) (rf82_0 hR) ?_
      refine go_iload (x := x5) dX12_file_42 rfl ?_
      refine go_iald' (v := (h.1 83 x5.toNatClampNeg)) dX12_file_44 sh83 vc.1 rfl ?_
      have vc := vc.2
      refine gvI1 MX12_isBoat dX12_file_45 lX12_564 kX12_isBoat vX12_isBoat sh82 (by decide) rfl (Nat.le_of_ble_eq_true rfl) vc ?_
      intro v11 h11 vc
      obtain ⟨hR11, vc⟩ := vc
      replace hR := hR11.trans hR
      refine go_if_eq 69 dX12_file_48 rfl (fun q => ?_) (fun q => ?_)
      · replace vc := vc.1 q
        refine go_iconst (v := 0) dX12_file_69 rfl ?_
        refine go_istore dX12_file_70 (Nat.le_of_ble_eq_true rfl) ?_
        show gg p l e s m args below meth c G (d + 1) MX12_file Q 72 [some (.ref 82), some (.int x1), some (.int x2), some (.int x3), some (.int 0), some (.int x5)] [] h11
        refine go_iload (x := 0) dX12_file_72 rfl ?_
        refine go_if_ne 80 dX12_file_74 rfl (fun q => absurd q (by decide)) (fun q => ?_)
        refine go_goto 106 dX12_file_77 rfl ?_
        refine go_iinc (x := x5) dX12_file_106 rfl ?_
        show gg p l e s m args below meth c G (d + 1) MX12_file Q 109 [some (.ref 82), some (.int x1), some (.int x2), some (.int x3), some (.int 0), some (.int (x5 + 1))] [] h11
        refine go_goto 26 dX12_file_109 rfl ?_
        exact vc
      · replace vc := vc.2 q
        refine go_iload_n (x := x3) dX12_file_51 rfl ?_
        refine go_aload_n (x := 82) dX12_file_52 rfl ?_
        refine go_getR (x := 83) dX12_file_53 f12_7 sh82 (fun _ _ => rfl) (rf82_0 hR) ?_
        refine go_iload (x := x5) dX12_file_56 rfl ?_
        refine go_iald' (v := (h11.1 83 x5.toNatClampNeg)) dX12_file_58 sh83 vc.1 rfl ?_
        have vc := vc.2
        refine go_ishr dX12_file_59 ?_
        refine go_iconst (v := 1) dX12_file_60 rfl ?_
        refine go_iand dX12_file_61 ?_
        refine go_if_ne 69 dX12_file_62 rfl (fun q => ?_) (fun q => ?_)
        · replace vc := vc.1 q
          refine go_iconst (v := 0) dX12_file_69 rfl ?_
          refine go_istore dX12_file_70 (Nat.le_of_ble_eq_true rfl) ?_
          show gg p l e s m args below meth c G (d + 1) MX12_file Q 72 [some (.ref 82), some (.int x1), some (.int x2), some (.int x3), some (.int 0), some (.int x5)] [] h11
          refine go_iload (x := 0) dX12_file_72 rfl ?_
          refine go_if_ne 80 dX12_file_74 rfl (fun q => absurd q (by decide)) (fun q => ?_)
          refine go_goto 106 dX12_file_77 rfl ?_
          refine go_iinc (x := x5) dX12_file_106 rfl ?_
          show gg p l e s m args below meth c G (d + 1) MX12_file Q 109 [some (.ref 82), some (.int x1), some (.int x2), some (.int x3), some (.int 0), some (.int (x5 + 1))] [] h11
          refine go_goto 26 dX12_file_109 rfl ?_
          exact vc
        · replace vc := vc.2 q
          refine go_iconst (v := 1) dX12_file_65 rfl ?_
          refine go_goto 70 dX12_file_66 rfl ?_
          refine go_istore dX12_file_70 (Nat.le_of_ble_eq_true rfl) ?_
          show gg p l e s m args below meth c G (d + 1) MX12_file Q 72 [some (.ref 82), some (.int x1), some (.int x2), some (.int x3), some (.int 1), some (.int x5)] [] h11
          refine go_iload (x := 1) dX12_file_72 rfl ?_
          refine go_if_ne 80 dX12_file_74 rfl (fun q => ?_) (fun q => absurd q (by decide))
          refine go_iload_n (x := x3) dX12_file_80 rfl ?_
          refine go_iconst (v := 1) dX12_file_81 rfl ?_
          refine go_aload_n (x := 82) dX12_file_82 rfl ?_
          refine go_getR (x := 83) dX12_file_83 f12_7 sh82 (fun _ _ => rfl) (rf82_0 hR) ?_
          refine go_iload (x := x5) dX12_file_86 rfl ?_
          refine go_iald' (v := (h11.1 83 x5.toNatClampNeg)) dX12_file_88 sh83 vc.1 rfl ?_
          have vc := vc.2
          refine go_ishl dX12_file_89 ?_
          refine go_ior dX12_file_90 ?_
          refine go_istore_n dX12_file_91 (Nat.le_of_ble_eq_true rfl) ?_
          show gg p l e s m args below meth c G (d + 1) MX12_file Q 92 [some (.ref 82), some (.int x1), some (.int x2), some (.int (x3 ||| (1 <<< ((h11.1 83 x5.toNatClampNeg) &&& 31)))), some (.int 1), some (.int x5)] [] h11
          refine go_aload_n (x := 82) dX12_file_92 rfl ?_
          refine go_getR (x := 137) dX12_file_93 f12_178 sh82 (fun _ _ => rfl) (rf82_72 hR) ?_
          refine go_iload (x := x5) dX12_file_96 rfl ?_
          refine go_aload_n (x := 82) dX12_file_98 rfl ?_
          refine go_getR (x := 83) dX12_file_99 f12_7 sh82 (fun _ _ => rfl) (rf82_0 hR) ?_
          refine go_iload (x := x5) dX12_file_102 rfl ?_
          refine go_iald' (v := (h11.1 83 x5.toNatClampNeg)) dX12_file_104 sh83 vc.1 rfl ?_
          have vc := vc.2
          refine go_iast dX12_file_105 sh137 vc.1 ?_
          have vc := vc.2
          show gg p l e s m args below meth c G (d + 1) MX12_file Q 106 [some (.ref 82), some (.int x1), some (.int x2), some (.int (x3 ||| (1 <<< ((h11.1 83 x5.toNatClampNeg) &&& 31)))), some (.int 1), some (.int x5)] [] (sI h11 137 x5.toNatClampNeg (h11.1 83 x5.toNatClampNeg))
          refine go_iinc (x := x5) dX12_file_106 rfl ?_
          show gg p l e s m args below meth c G (d + 1) MX12_file Q 109 [some (.ref 82), some (.int x1), some (.int x2), some (.int (x3 ||| (1 <<< ((h11.1 83 x5.toNatClampNeg) &&& 31)))), some (.int 1), some (.int (x5 + 1))] [] (sI h11 137 x5.toNatClampNeg (h11.1 83 x5.toNatClampNeg))
          refine go_goto 26 dX12_file_109 rfl ?_
          exact vc
set_option maxRecDepth 20000 in
theorem wX12_coax_0 {p : Program} {l : Launch} {e : Env} {s : State} {m : MethodId} {args : Array Value} {below : List Frame} {meth : Method} {c : Code} {G : gG} {d : Nat} {Q : Option Value → gH → Prop} {h : gH} {lk sp : Nat} {cd : Option Nat} {a1 : Int32} {a2 : Int32} (hR : h.2.2 = gRF lk sp cd) (hlk : lk = 30 ∨ lk = 67) (hsp : sp = 30 ∨ sp = 67)  (vc : gC l G d MX12_isBoat [.ref 82, .int a1] h (rI fun v1 h1 => h1.2.2 = (h).2.2 ∧ ((v1 = 0 → gC l G d MX12_refuses [.ref 82, .int 3] h1 (rI fun v2 h2 => h2.2.2 = (h1).2.2 ∧ Q (some (.int v2)) h2)) ∧ (¬ v1 = 0 → gC l G d MX12_isIn [.long (a2 : Int32).toInt64, .long 1, .long 99] h1 (rI fun v3 h3 => h3.2.2 = (h1).2.2 ∧ ((¬ v3 = 0 → gC l G d MX12_keeps [.ref 82] h3 (rV fun h4 => h4.2.2 = (h3).2.2 ∧ gC l G d MX12_trustOf [.ref 82, .int a1] h4 (rI fun v5 h5 => h5.2.2 = (h4).2.2 ∧ (((v5 + (a2 * (h5.1 126 1))) ≤ 99 → (vp_in (((2 + (4 * a1)) + 1)) 187 ∧ (((((sI h5 133 (((2 + (4 * a1)) + 1) : Int32).toNatClampNeg (v5 + (a2 * (h5.1 126 1)))).1 133 1) + a2) ≤ 999999 → gC l G d MX12_trustOf [.ref 82, .int a1] (sI (sI h5 133 (((2 + (4 * a1)) + 1) : Int32).toNatClampNeg (v5 + (a2 * (h5.1 126 1)))) 133 1 (((sI h5 133 (((2 + (4 * a1)) + 1) : Int32).toNatClampNeg (v5 + (a2 * (h5.1 126 1)))).1 133 1) + a2)) (rI fun v6 h6 => h6.2.2 = ((sI (sI h5 133 (((2 + (4 * a1)) + 1) : Int32).toNatClampNeg (v5 + (a2 * (h5.1 126 1)))) 133 1 (((sI h5 133 (((2 + (4 * a1)) + 1) : Int32).toNatClampNeg (v5 + (a2 * (h5.1 126 1)))).1 133 1) + a2))).2.2 ∧ Q (some (.int v6)) h6)) ∧ (¬ (((sI h5 133 (((2 + (4 * a1)) + 1) : Int32).toNatClampNeg (v5 + (a2 * (h5.1 126 1)))).1 133 1) + a2) ≤ 999999 → gC l G d MX12_trustOf [.ref 82, .int a1] (sI (sI h5 133 (((2 + (4 * a1)) + 1) : Int32).toNatClampNeg (v5 + (a2 * (h5.1 126 1)))) 133 1 999999) (rI fun v7 h7 => h7.2.2 = ((sI (sI h5 133 (((2 + (4 * a1)) + 1) : Int32).toNatClampNeg (v5 + (a2 * (h5.1 126 1)))) 133 1 999999)).2.2 ∧ Q (some (.int v7)) h7))))) ∧ (¬ (v5 + (a2 * (h5.1 126 1))) ≤ 99 → (vp_in (((2 + (4 * a1)) + 1)) 187 ∧ (((((sI h5 133 (((2 + (4 * a1)) + 1) : Int32).toNatClampNeg 99).1 133 1) + a2) ≤ 999999 → gC l G d MX12_trustOf [.ref 82, .int a1] (sI (sI h5 133 (((2 + (4 * a1)) + 1) : Int32).toNatClampNeg 99) 133 1 (((sI h5 133 (((2 + (4 * a1)) + 1) : Int32).toNatClampNeg 99).1 133 1) + a2)) (rI fun v8 h8 => h8.2.2 = ((sI (sI h5 133 (((2 + (4 * a1)) + 1) : Int32).toNatClampNeg 99) 133 1 (((sI h5 133 (((2 + (4 * a1)) + 1) : Int32).toNatClampNeg 99).1 133 1) + a2))).2.2 ∧ Q (some (.int v8)) h8)) ∧ (¬ (((sI h5 133 (((2 + (4 * a1)) + 1) : Int32).toNatClampNeg 99).1 133 1) + a2) ≤ 999999 → gC l G d MX12_trustOf [.ref 82, .int a1] (sI (sI h5 133 (((2 + (4 * a1)) + 1) : Int32).toNatClampNeg 99) 133 1 999999) (rI fun v9 h9 => h9.2.2 = ((sI (sI h5 133 (((2 + (4 * a1)) + 1) : Int32).toNatClampNeg 99) 133 1 999999)).2.2 ∧ Q (some (.int v9)) h9))))))))) ∧ (v3 = 0 → gC l G d MX12_refuses [.ref 82, .int 3] h3 (rI fun v10 h10 => h10.2.2 = (h3).2.2 ∧ Q (some (.int v10)) h10)))))))) : gg p l e s m args below meth c G (d + 1) MX12_coax Q 0 [some (.ref 82), some (.int a1), some (.int a2), none, none] [] h := by
  refine go_aload_n (x := 82) dX12_coax_0 rfl ?_
  refine go_iload_n (x := a1) dX12_coax_1 rfl ?_
  refine gvI1 MX12_isBoat dX12_coax_2 lX12_564 kX12_isBoat vX12_isBoat sh82 (by decide) rfl (Nat.le_of_ble_eq_true rfl) vc ?_
  intro v1 h1 vc
  obtain ⟨hR1, vc⟩ := vc
  replace hR := hR1.trans hR
  refine go_if_eq 20 dX12_coax_5 rfl (fun q => ?_) (fun q => ?_)
  · replace vc := vc.1 q
    refine go_aload_n (x := 82) dX12_coax_20 rfl ?_
    refine go_iconst (v := 3) dX12_coax_21 rfl ?_
    refine gvI1 MX12_refuses dX12_coax_22 lX12_656 kX12_refuses vX12_refuses sh82 (by decide) rfl (Nat.le_of_ble_eq_true rfl) vc ?_
    intro v2 h2 vc
    obtain ⟨hR2, vc⟩ := vc
    replace hR := hR2.trans hR
    exact go_iret dX12_coax_25 rfl vc rfl (Nat.le_refl _) (Nat.le_refl _)
  · replace vc := vc.2 q
    refine go_iload_n (x := a2) dX12_coax_8 rfl ?_
    refine go_i2l dX12_coax_9 ?_
    refine go_lconst (v := 1) dX12_coax_10 rfl ?_
    refine go_ldc2 (v := 99) dX12_coax_11 nX12_532 ?_
    refine gsI3 MX12_isIn dX12_coax_14 lX12_321 kX12_isIn sX12_isIn (Nat.le_of_ble_eq_true rfl) vc ?_
    intro v3 h3 vc
    obtain ⟨hR3, vc⟩ := vc
    replace hR := hR3.trans hR
    refine go_if_ne 26 dX12_coax_17 rfl (fun q => ?_) (fun q => ?_)
    · replace vc := vc.1 q
      refine go_aload_n (x := 82) dX12_coax_26 rfl ?_
      refine gvV0 MX12_keeps dX12_coax_27 lX12_659 kX12_keeps vX12_keeps sh82 (by decide) rfl (Nat.le_of_ble_eq_true rfl) vc ?_
      intro h4 vc
      obtain ⟨hR4, vc⟩ := vc
      replace hR := hR4.trans hR
      refine go_aload_n (x := 82) dX12_coax_30 rfl ?_
      refine go_iload_n (x := a1) dX12_coax_31 rfl ?_
      refine gvI1 MX12_trustOf dX12_coax_32 lX12_522 kX12_trustOf vX12_trustOf sh82 (by decide) rfl (Nat.le_of_ble_eq_true rfl) vc ?_
      intro v5 h5 vc
      obtain ⟨hR5, vc⟩ := vc
      replace hR := hR5.trans hR
      refine go_iload_n (x := a2) dX12_coax_35 rfl ?_
      refine go_aload_n (x := 82) dX12_coax_36 rfl ?_
      refine go_getR (x := 126) dX12_coax_37 f12_145 sh82 (fun _ _ => rfl) (rf82_53 hR) ?_
      refine go_iconst (v := 1) dX12_coax_40 rfl ?_
      refine go_iald' (v := (h5.1 126 1)) dX12_coax_41 sh126 (by unfold vp_in; decide) rfl ?_
      refine go_imul dX12_coax_42 ?_
      refine go_iadd dX12_coax_43 ?_
      refine go_istore_n dX12_coax_44 (Nat.le_of_ble_eq_true rfl) ?_
      show gg p l e s m args below meth c G (d + 1) MX12_coax Q 45 [some (.ref 82), some (.int a1), some (.int a2), some (.int (v5 + (a2 * (h5.1 126 1)))), none] [] h5
      refine go_aload_n (x := 82) dX12_coax_45 rfl ?_
      refine go_getR (x := 133) dX12_coax_46 f12_166 sh82 (fun _ _ => rfl) (rf82_68 hR) ?_
      refine go_iconst (v := 2) dX12_coax_49 rfl ?_
      refine go_iconst (v := 4) dX12_coax_50 rfl ?_
      refine go_iload_n (x := a1) dX12_coax_51 rfl ?_
      refine go_imul dX12_coax_52 ?_
      refine go_iadd dX12_coax_53 ?_
      refine go_iconst (v := 1) dX12_coax_54 rfl ?_
      refine go_iadd dX12_coax_55 ?_
      refine go_iload_n (x := (v5 + (a2 * (h5.1 126 1)))) dX12_coax_56 rfl ?_
      refine go_bipush (v := 99) dX12_coax_57 rfl ?_
      refine go_icmp_le 67 dX12_coax_59 rfl (fun q => ?_) (fun q => ?_)
      · replace vc := vc.1 q
        refine go_iload_n (x := (v5 + (a2 * (h5.1 126 1)))) dX12_coax_67 rfl ?_
        refine go_iast dX12_coax_68 sh133 vc.1 ?_
        have vc := vc.2
        show gg p l e s m args below meth c G (d + 1) MX12_coax Q 69 [some (.ref 82), some (.int a1), some (.int a2), some (.int (v5 + (a2 * (h5.1 126 1)))), none] [] (sI h5 133 (((2 + (4 * a1)) + 1) : Int32).toNatClampNeg (v5 + (a2 * (h5.1 126 1))))
        refine go_aload_n (x := 82) dX12_coax_69 rfl ?_
        refine go_getR (x := 133) dX12_coax_70 f12_166 sh82 (fun _ _ => rfl) (rf82_68 hR) ?_
        refine go_iconst (v := 1) dX12_coax_73 rfl ?_
        refine go_iald' (v := ((sI h5 133 (((2 + (4 * a1)) + 1) : Int32).toNatClampNeg (v5 + (a2 * (h5.1 126 1)))).1 133 1)) dX12_coax_74 sh133 (by unfold vp_in; decide) rfl ?_
        refine go_iload_n (x := a2) dX12_coax_75 rfl ?_
        refine go_iadd dX12_coax_76 ?_
        refine go_istore dX12_coax_77 (Nat.le_of_ble_eq_true rfl) ?_
        show gg p l e s m args below meth c G (d + 1) MX12_coax Q 79 [some (.ref 82), some (.int a1), some (.int a2), some (.int (v5 + (a2 * (h5.1 126 1)))), some (.int (((sI h5 133 (((2 + (4 * a1)) + 1) : Int32).toNatClampNeg (v5 + (a2 * (h5.1 126 1)))).1 133 1) + a2))] [] (sI h5 133 (((2 + (4 * a1)) + 1) : Int32).toNatClampNeg (v5 + (a2 * (h5.1 126 1))))
        refine go_aload_n (x := 82) dX12_coax_79 rfl ?_
        refine go_getR (x := 133) dX12_coax_80 f12_166 sh82 (fun _ _ => rfl) (rf82_68 hR) ?_
        refine go_iconst (v := 1) dX12_coax_83 rfl ?_
        refine go_iload (x := (((sI h5 133 (((2 + (4 * a1)) + 1) : Int32).toNatClampNeg (v5 + (a2 * (h5.1 126 1)))).1 133 1) + a2)) dX12_coax_84 rfl ?_
        refine go_ldcw (v := 999999) dX12_coax_86 nX12_664 ?_
        refine go_icmp_le 98 dX12_coax_89 rfl (fun q => ?_) (fun q => ?_)
        · replace vc := vc.1 q
          refine go_iload (x := (((sI h5 133 (((2 + (4 * a1)) + 1) : Int32).toNatClampNeg (v5 + (a2 * (h5.1 126 1)))).1 133 1) + a2)) dX12_coax_98 rfl ?_
          refine go_iast dX12_coax_100 sh133 (by unfold vp_in; decide) ?_
          refine go_aload_n (x := 82) dX12_coax_101 rfl ?_
          refine go_iload_n (x := a1) dX12_coax_102 rfl ?_
          refine gvI1 MX12_trustOf dX12_coax_103 lX12_522 kX12_trustOf vX12_trustOf sh82 (by decide) rfl (Nat.le_of_ble_eq_true rfl) vc ?_
          intro v6 h6 vc
          obtain ⟨hR6, vc⟩ := vc
          replace hR := hR6.trans hR
          exact go_iret dX12_coax_106 rfl vc rfl (Nat.le_refl _) (Nat.le_refl _)
        · replace vc := vc.2 q
          refine go_ldcw (v := 999999) dX12_coax_92 nX12_664 ?_
          refine go_goto 100 dX12_coax_95 rfl ?_
          refine go_iast dX12_coax_100 sh133 (by unfold vp_in; decide) ?_
          refine go_aload_n (x := 82) dX12_coax_101 rfl ?_
          refine go_iload_n (x := a1) dX12_coax_102 rfl ?_
          refine gvI1 MX12_trustOf dX12_coax_103 lX12_522 kX12_trustOf vX12_trustOf sh82 (by decide) rfl (Nat.le_of_ble_eq_true rfl) vc ?_
          intro v7 h7 vc
          obtain ⟨hR7, vc⟩ := vc
          replace hR := hR7.trans hR
          exact go_iret dX12_coax_106 rfl vc rfl (Nat.le_refl _) (Nat.le_refl _)
      · replace vc := vc.2 q
        refine go_bipush (v := 99) dX12_coax_62 rfl ?_
        refine go_goto 68 dX12_coax_64 rfl ?_
        refine go_iast dX12_coax_68 sh133 vc.1 ?_
        have vc := vc.2
        show gg p l e s m args below meth c G (d + 1) MX12_coax Q 69 [some (.ref 82), some (.int a1), some (.int a2), some (.int (v5 + (a2 * (h5.1 126 1)))), none] [] (sI h5 133 (((2 + (4 * a1)) + 1) : Int32).toNatClampNeg 99)
        refine go_aload_n (x := 82) dX12_coax_69 rfl ?_
        refine go_getR (x := 133) dX12_coax_70 f12_166 sh82 (fun _ _ => rfl) (rf82_68 hR) ?_
        refine go_iconst (v := 1) dX12_coax_73 rfl ?_
        refine go_iald' (v := ((sI h5 133 (((2 + (4 * a1)) + 1) : Int32).toNatClampNeg 99).1 133 1)) dX12_coax_74 sh133 (by unfold vp_in; decide) rfl ?_
        refine go_iload_n (x := a2) dX12_coax_75 rfl ?_
        refine go_iadd dX12_coax_76 ?_
        refine go_istore dX12_coax_77 (Nat.le_of_ble_eq_true rfl) ?_
        show gg p l e s m args below meth c G (d + 1) MX12_coax Q 79 [some (.ref 82), some (.int a1), some (.int a2), some (.int (v5 + (a2 * (h5.1 126 1)))), some (.int (((sI h5 133 (((2 + (4 * a1)) + 1) : Int32).toNatClampNeg 99).1 133 1) + a2))] [] (sI h5 133 (((2 + (4 * a1)) + 1) : Int32).toNatClampNeg 99)
        refine go_aload_n (x := 82) dX12_coax_79 rfl ?_
        refine go_getR (x := 133) dX12_coax_80 f12_166 sh82 (fun _ _ => rfl) (rf82_68 hR) ?_
        refine go_iconst (v := 1) dX12_coax_83 rfl ?_
        refine go_iload (x := (((sI h5 133 (((2 + (4 * a1)) + 1) : Int32).toNatClampNeg 99).1 133 1) + a2)) dX12_coax_84 rfl ?_
        refine go_ldcw (v := 999999) dX12_coax_86 nX12_664 ?_
        refine go_icmp_le 98 dX12_coax_89 rfl (fun q => ?_) (fun q => ?_)
        · replace vc := vc.1 q
          refine go_iload (x := (((sI h5 133 (((2 + (4 * a1)) + 1) : Int32).toNatClampNeg 99).1 133 1) + a2)) dX12_coax_98 rfl ?_
          refine go_iast dX12_coax_100 sh133 (by unfold vp_in; decide) ?_
          refine go_aload_n (x := 82) dX12_coax_101 rfl ?_
          refine go_iload_n (x := a1) dX12_coax_102 rfl ?_
          refine gvI1 MX12_trustOf dX12_coax_103 lX12_522 kX12_trustOf vX12_trustOf sh82 (by decide) rfl (Nat.le_of_ble_eq_true rfl) vc ?_
          intro v8 h8 vc
          obtain ⟨hR8, vc⟩ := vc
          replace hR := hR8.trans hR
          exact go_iret dX12_coax_106 rfl vc rfl (Nat.le_refl _) (Nat.le_refl _)
        · replace vc := vc.2 q
          refine go_ldcw (v := 999999) dX12_coax_92 nX12_664 ?_
          refine go_goto 100 dX12_coax_95 rfl ?_
          refine go_iast dX12_coax_100 sh133 (by unfold vp_in; decide) ?_
          refine go_aload_n (x := 82) dX12_coax_101 rfl ?_
          refine go_iload_n (x := a1) dX12_coax_102 rfl ?_
          refine gvI1 MX12_trustOf dX12_coax_103 lX12_522 kX12_trustOf vX12_trustOf sh82 (by decide) rfl (Nat.le_of_ble_eq_true rfl) vc ?_
          intro v9 h9 vc
          obtain ⟨hR9, vc⟩ := vc
          replace hR := hR9.trans hR
          exact go_iret dX12_coax_106 rfl vc rfl (Nat.le_refl _) (Nat.le_refl _)
    · replace vc := vc.2 q
      refine go_aload_n (x := 82) dX12_coax_20 rfl ?_
      refine go_iconst (v := 3) dX12_coax_21 rfl ?_
      refine gvI1 MX12_refuses dX12_coax_22 lX12_656 kX12_refuses vX12_refuses sh82 (by decide) rfl (Nat.le_of_ble_eq_true rfl) vc ?_
      intro v10 h10 vc
      obtain ⟨hR10, vc⟩ := vc
      replace hR := hR10.trans hR
      exact go_iret dX12_coax_25 rfl vc rfl (Nat.le_refl _) (Nat.le_refl _)
set_option maxRecDepth 20000 in
theorem wX12_man_0 {p : Program} {l : Launch} {e : Env} {s : State} {m : MethodId} {args : Array Value} {below : List Frame} {meth : Method} {c : Code} {G : gG} {d : Nat} {Q : Option Value → gH → Prop} {h : gH} {lk sp : Nat} {cd : Option Nat} {a1 : Int32} {a2 : Int32} (hR : h.2.2 = gRF lk sp cd) (hlk : lk = 30 ∨ lk = 67) (hsp : sp = 30 ∨ sp = 67)  (vc : gC l G d MX12_isBoat [.ref 82, .int a1] h (rI fun v1 h1 => h1.2.2 = (h).2.2 ∧ ((v1 = 0 → Q (some (.int 0)) (sI h1 84 3 ((h1.1 84 3) + 1))) ∧ (¬ v1 = 0 → ((a2 = (-1) → gC l G d MX12_handOf [.ref 82, .int a1] h1 (rI fun v2 h2 => h2.2.2 = (h1).2.2 ∧ ((¬ v2 = a2 → gC l G d MX12_keeps [.ref 82] h2 (rV fun h3 => h3.2.2 = (h2).2.2 ∧ ((¬ a2 = (-1) → gC l G d MX12_boatWith [.ref 82, .int a2] h3 (rI fun v4 h4 => h4.2.2 = (h3).2.2 ∧ ((v4 = (-1) → (vp_in (((2 + (4 * a1)) + 3)) 187 ∧ Q (some (.int 1)) (sI h4 133 (((2 + (4 * a1)) + 3) : Int32).toNatClampNeg a2))) ∧ (¬ v4 = (-1) → (vp_in (((2 + (4 * v4)) + 3)) 187 ∧ (vp_in (((2 + (4 * a1)) + 3)) 187 ∧ Q (some (.int 1)) (sI (sI h4 133 (((2 + (4 * v4)) + 3) : Int32).toNatClampNeg (-1)) 133 (((2 + (4 * a1)) + 3) : Int32).toNatClampNeg a2))))))) ∧ (a2 = (-1) → (vp_in (((2 + (4 * a1)) + 3)) 187 ∧ Q (some (.int 1)) (sI h3 133 (((2 + (4 * a1)) + 3) : Int32).toNatClampNeg a2)))))) ∧ (v2 = a2 → Q (some (.int 0)) (sI h2 84 3 ((h2.1 84 3) + 1)))))) ∧ (¬ a2 = (-1) → gC l G d MX12_isHand [.ref 82, .int a2] h1 (rI fun v5 h5 => h5.2.2 = (h1).2.2 ∧ ((v5 = 0 → Q (some (.int 0)) (sI h5 84 3 ((h5.1 84 3) + 1))) ∧ (¬ v5 = 0 → gC l G d MX12_handOf [.ref 82, .int a1] h5 (rI fun v6 h6 => h6.2.2 = (h5).2.2 ∧ ((¬ v6 = a2 → gC l G d MX12_keeps [.ref 82] h6 (rV fun h7 => h7.2.2 = (h6).2.2 ∧ ((¬ a2 = (-1) → gC l G d MX12_boatWith [.ref 82, .int a2] h7 (rI fun v8 h8 => h8.2.2 = (h7).2.2 ∧ ((v8 = (-1) → (vp_in (((2 + (4 * a1)) + 3)) 187 ∧ Q (some (.int 1)) (sI h8 133 (((2 + (4 * a1)) + 3) : Int32).toNatClampNeg a2))) ∧ (¬ v8 = (-1) → (vp_in (((2 + (4 * v8)) + 3)) 187 ∧ (vp_in (((2 + (4 * a1)) + 3)) 187 ∧ Q (some (.int 1)) (sI (sI h8 133 (((2 + (4 * v8)) + 3) : Int32).toNatClampNeg (-1)) 133 (((2 + (4 * a1)) + 3) : Int32).toNatClampNeg a2))))))) ∧ (a2 = (-1) → (vp_in (((2 + (4 * a1)) + 3)) 187 ∧ Q (some (.int 1)) (sI h7 133 (((2 + (4 * a1)) + 3) : Int32).toNatClampNeg a2)))))) ∧ (v6 = a2 → Q (some (.int 0)) (sI h6 84 3 ((h6.1 84 3) + 1)))))))))))))) : gg p l e s m args below meth c G (d + 1) MX12_man Q 0 [some (.ref 82), some (.int a1), some (.int a2), none] [] h := by
  refine go_aload_n (x := 82) dX12_man_0 rfl ?_
  refine go_iload_n (x := a1) dX12_man_1 rfl ?_
  refine gvI1 MX12_isBoat dX12_man_2 lX12_564 kX12_isBoat vX12_isBoat sh82 (by decide) rfl (Nat.le_of_ble_eq_true rfl) vc ?_
  intro v1 h1 vc
  obtain ⟨hR1, vc⟩ := vc
  replace hR := hR1.trans hR
  refine go_if_eq 30 dX12_man_5 rfl (fun q => ?_) (fun q => ?_)
  · replace vc := vc.1 q
    refine go_aload_n (x := 82) dX12_man_30 rfl ?_
    refine go_getR (x := 84) dX12_man_31 f12_17 sh82 (fun _ _ => rfl) (rf82_9 hR) ?_
    refine go_iconst (v := 3) dX12_man_34 rfl ?_
    refine go_dup2 dX12_man_35 rfl rfl ?_
    refine go_iald' (v := (h1.1 84 3)) dX12_man_36 sh84 (by unfold vp_in; decide) rfl ?_
    refine go_iconst (v := 1) dX12_man_37 rfl ?_
    refine go_iadd dX12_man_38 ?_
    refine go_iast dX12_man_39 sh84 (by unfold vp_in; decide) ?_
    refine go_iconst (v := 0) dX12_man_40 rfl ?_
    exact go_zret dX12_man_41 rfl (by decide) vc rfl (Nat.le_refl _) (Nat.le_refl _)
  · replace vc := vc.2 q
    refine go_iload_n (x := a2) dX12_man_8 rfl ?_
    refine go_iconst (v := (-1)) dX12_man_9 rfl ?_
    refine go_icmp_eq 21 dX12_man_10 rfl (fun q => ?_) (fun q => ?_)
    · replace vc := vc.1 q
      refine go_aload_n (x := 82) dX12_man_21 rfl ?_
      refine go_iload_n (x := a1) dX12_man_22 rfl ?_
      refine gvI1 MX12_handOf dX12_man_23 lX12_519 kX12_handOf vX12_handOf sh82 (by decide) rfl (Nat.le_of_ble_eq_true rfl) vc ?_
      intro v2 h2 vc
      obtain ⟨hR2, vc⟩ := vc
      replace hR := hR2.trans hR
      refine go_iload_n (x := a2) dX12_man_26 rfl ?_
      refine go_icmp_ne 42 dX12_man_27 rfl (fun q => ?_) (fun q => ?_)
      · replace vc := vc.1 q
        refine go_aload_n (x := 82) dX12_man_42 rfl ?_
        refine gvV0 MX12_keeps dX12_man_43 lX12_659 kX12_keeps vX12_keeps sh82 (by decide) rfl (Nat.le_of_ble_eq_true rfl) vc ?_
        intro h3 vc
        obtain ⟨hR3, vc⟩ := vc
        replace hR := hR3.trans hR
        refine go_iload_n (x := a2) dX12_man_46 rfl ?_
        refine go_iconst (v := (-1)) dX12_man_47 rfl ?_
        refine go_icmp_ne 55 dX12_man_48 rfl (fun q => ?_) (fun q => ?_)
        · replace vc := vc.1 q
          refine go_aload_n (x := 82) dX12_man_55 rfl ?_
          refine go_iload_n (x := a2) dX12_man_56 rfl ?_
          refine gvI1 MX12_boatWith dX12_man_57 lX12_578 kX12_boatWith vX12_boatWith sh82 (by decide) rfl (Nat.le_of_ble_eq_true rfl) vc ?_
          intro v4 h4 vc
          obtain ⟨hR4, vc⟩ := vc
          replace hR := hR4.trans hR
          refine go_istore_n dX12_man_60 (Nat.le_of_ble_eq_true rfl) ?_
          show gg p l e s m args below meth c G (d + 1) MX12_man Q 61 [some (.ref 82), some (.int a1), some (.int a2), some (.int v4)] [] h4
          refine go_iload_n (x := v4) dX12_man_61 rfl ?_
          refine go_iconst (v := (-1)) dX12_man_62 rfl ?_
          refine go_icmp_eq 79 dX12_man_63 rfl (fun q => ?_) (fun q => ?_)
          · replace vc := vc.1 q
            refine go_aload_n (x := 82) dX12_man_79 rfl ?_
            refine go_getR (x := 133) dX12_man_80 f12_166 sh82 (fun _ _ => rfl) (rf82_68 hR) ?_
            refine go_iconst (v := 2) dX12_man_83 rfl ?_
            refine go_iconst (v := 4) dX12_man_84 rfl ?_
            refine go_iload_n (x := a1) dX12_man_85 rfl ?_
            refine go_imul dX12_man_86 ?_
            refine go_iadd dX12_man_87 ?_
            refine go_iconst (v := 3) dX12_man_88 rfl ?_
            refine go_iadd dX12_man_89 ?_
            refine go_iload_n (x := a2) dX12_man_90 rfl ?_
            refine go_iast dX12_man_91 sh133 vc.1 ?_
            have vc := vc.2
            show gg p l e s m args below meth c G (d + 1) MX12_man Q 92 [some (.ref 82), some (.int a1), some (.int a2), some (.int v4)] [] (sI h4 133 (((2 + (4 * a1)) + 3) : Int32).toNatClampNeg a2)
            refine go_iconst (v := 1) dX12_man_92 rfl ?_
            exact go_zret dX12_man_93 rfl (by decide) vc rfl (Nat.le_refl _) (Nat.le_refl _)
          · replace vc := vc.2 q
            refine go_aload_n (x := 82) dX12_man_66 rfl ?_
            refine go_getR (x := 133) dX12_man_67 f12_166 sh82 (fun _ _ => rfl) (rf82_68 hR) ?_
            refine go_iconst (v := 2) dX12_man_70 rfl ?_
            refine go_iconst (v := 4) dX12_man_71 rfl ?_
            refine go_iload_n (x := v4) dX12_man_72 rfl ?_
            refine go_imul dX12_man_73 ?_
            refine go_iadd dX12_man_74 ?_
            refine go_iconst (v := 3) dX12_man_75 rfl ?_
            refine go_iadd dX12_man_76 ?_
            refine go_iconst (v := (-1)) dX12_man_77 rfl ?_
            refine go_iast dX12_man_78 sh133 vc.1 ?_
            have vc := vc.2
            show gg p l e s m args below meth c G (d + 1) MX12_man Q 79 [some (.ref 82), some (.int a1), some (.int a2), some (.int v4)] [] (sI h4 133 (((2 + (4 * v4)) + 3) : Int32).toNatClampNeg (-1))
            refine go_aload_n (x := 82) dX12_man_79 rfl ?_
            refine go_getR (x := 133) dX12_man_80 f12_166 sh82 (fun _ _ => rfl) (rf82_68 hR) ?_
            refine go_iconst (v := 2) dX12_man_83 rfl ?_
            refine go_iconst (v := 4) dX12_man_84 rfl ?_
            refine go_iload_n (x := a1) dX12_man_85 rfl ?_
            refine go_imul dX12_man_86 ?_
            refine go_iadd dX12_man_87 ?_
            refine go_iconst (v := 3) dX12_man_88 rfl ?_
            refine go_iadd dX12_man_89 ?_
            refine go_iload_n (x := a2) dX12_man_90 rfl ?_
            refine go_iast dX12_man_91 sh133 vc.1 ?_
            have vc := vc.2
            show gg p l e s m args below meth c G (d + 1) MX12_man Q 92 [some (.ref 82), some (.int a1), some (.int a2), some (.int v4)] [] (sI (sI h4 133 (((2 + (4 * v4)) + 3) : Int32).toNatClampNeg (-1)) 133 (((2 + (4 * a1)) + 3) : Int32).toNatClampNeg a2)
            refine go_iconst (v := 1) dX12_man_92 rfl ?_
            exact go_zret dX12_man_93 rfl (by decide) vc rfl (Nat.le_refl _) (Nat.le_refl _)
        · replace vc := vc.2 q
          refine go_iconst (v := (-1)) dX12_man_51 rfl ?_
          refine go_goto 60 dX12_man_52 rfl ?_
          refine go_istore_n dX12_man_60 (Nat.le_of_ble_eq_true rfl) ?_
          show gg p l e s m args below meth c G (d + 1) MX12_man Q 61 [some (.ref 82), some (.int a1), some (.int a2), some (.int (-1))] [] h3
          refine go_iload_n (x := (-1)) dX12_man_61 rfl ?_
          refine go_iconst (v := (-1)) dX12_man_62 rfl ?_
          refine go_icmp_eq 79 dX12_man_63 rfl (fun q => ?_) (fun q => absurd q (by decide))
          refine go_aload_n (x := 82) dX12_man_79 rfl ?_
          refine go_getR (x := 133) dX12_man_80 f12_166 sh82 (fun _ _ => rfl) (rf82_68 hR) ?_
          refine go_iconst (v := 2) dX12_man_83 rfl ?_
          refine go_iconst (v := 4) dX12_man_84 rfl ?_
          refine go_iload_n (x := a1) dX12_man_85 rfl ?_
          refine go_imul dX12_man_86 ?_
          refine go_iadd dX12_man_87 ?_
          refine go_iconst (v := 3) dX12_man_88 rfl ?_
          refine go_iadd dX12_man_89 ?_
          refine go_iload_n (x := a2) dX12_man_90 rfl ?_
          refine go_iast dX12_man_91 sh133 vc.1 ?_
          have vc := vc.2
          show gg p l e s m args below meth c G (d + 1) MX12_man Q 92 [some (.ref 82), some (.int a1), some (.int a2), some (.int (-1))] [] (sI h3 133 (((2 + (4 * a1)) + 3) : Int32).toNatClampNeg a2)
          refine go_iconst (v := 1) dX12_man_92 rfl ?_
          exact go_zret dX12_man_93 rfl (by decide) vc rfl (Nat.le_refl _) (Nat.le_refl _)
      · replace vc := vc.2 q
        refine go_aload_n (x := 82) dX12_man_30 rfl ?_
        refine go_getR (x := 84) dX12_man_31 f12_17 sh82 (fun _ _ => rfl) (rf82_9 hR) ?_
        refine go_iconst (v := 3) dX12_man_34 rfl ?_
        refine go_dup2 dX12_man_35 rfl rfl ?_
        refine go_iald' (v := (h2.1 84 3)) dX12_man_36 sh84 (by unfold vp_in; decide) rfl ?_
        refine go_iconst (v := 1) dX12_man_37 rfl ?_
        refine go_iadd dX12_man_38 ?_
        refine go_iast dX12_man_39 sh84 (by unfold vp_in; decide) ?_
        refine go_iconst (v := 0) dX12_man_40 rfl ?_
        exact go_zret dX12_man_41 rfl (by decide) vc rfl (Nat.le_refl _) (Nat.le_refl _)
    · replace vc := vc.2 q
      refine go_aload_n (x := 82) dX12_man_13 rfl ?_
      refine go_iload_n (x := a2) dX12_man_14 rfl ?_
      refine gvI1 MX12_isHand dX12_man_15 lX12_575 kX12_isHand vX12_isHand sh82 (by decide) rfl (Nat.le_of_ble_eq_true rfl) vc ?_
      intro v5 h5 vc
      obtain ⟨hR5, vc⟩ := vc
      replace hR := hR5.trans hR
      refine go_if_eq 30 dX12_man_18 rfl (fun q => ?_) (fun q => ?_)
      · replace vc := vc.1 q
        refine go_aload_n (x := 82) dX12_man_30 rfl ?_
        refine go_getR (x := 84) dX12_man_31 f12_17 sh82 (fun _ _ => rfl) (rf82_9 hR) ?_
        refine go_iconst (v := 3) dX12_man_34 rfl ?_
        refine go_dup2 dX12_man_35 rfl rfl ?_
        refine go_iald' (v := (h5.1 84 3)) dX12_man_36 sh84 (by unfold vp_in; decide) rfl ?_
        refine go_iconst (v := 1) dX12_man_37 rfl ?_
        refine go_iadd dX12_man_38 ?_
        refine go_iast dX12_man_39 sh84 (by unfold vp_in; decide) ?_
        refine go_iconst (v := 0) dX12_man_40 rfl ?_
        exact go_zret dX12_man_41 rfl (by decide) vc rfl (Nat.le_refl _) (Nat.le_refl _)
      · replace vc := vc.2 q
        refine go_aload_n (x := 82) dX12_man_21 rfl ?_
        refine go_iload_n (x := a1) dX12_man_22 rfl ?_
        refine gvI1 MX12_handOf dX12_man_23 lX12_519 kX12_handOf vX12_handOf sh82 (by decide) rfl (Nat.le_of_ble_eq_true rfl) vc ?_
        intro v6 h6 vc
        obtain ⟨hR6, vc⟩ := vc
        replace hR := hR6.trans hR
        refine go_iload_n (x := a2) dX12_man_26 rfl ?_
        refine go_icmp_ne 42 dX12_man_27 rfl (fun q => ?_) (fun q => ?_)
        · replace vc := vc.1 q
          refine go_aload_n (x := 82) dX12_man_42 rfl ?_
          refine gvV0 MX12_keeps dX12_man_43 lX12_659 kX12_keeps vX12_keeps sh82 (by decide) rfl (Nat.le_of_ble_eq_true rfl) vc ?_
          intro h7 vc
          obtain ⟨hR7, vc⟩ := vc
          replace hR := hR7.trans hR
          refine go_iload_n (x := a2) dX12_man_46 rfl ?_
          refine go_iconst (v := (-1)) dX12_man_47 rfl ?_
          refine go_icmp_ne 55 dX12_man_48 rfl (fun q => ?_) (fun q => ?_)
          · replace vc := vc.1 q
            refine go_aload_n (x := 82) dX12_man_55 rfl ?_
            refine go_iload_n (x := a2) dX12_man_56 rfl ?_
            refine gvI1 MX12_boatWith dX12_man_57 lX12_578 kX12_boatWith vX12_boatWith sh82 (by decide) rfl (Nat.le_of_ble_eq_true rfl) vc ?_
            intro v8 h8 vc
            obtain ⟨hR8, vc⟩ := vc
            replace hR := hR8.trans hR
            refine go_istore_n dX12_man_60 (Nat.le_of_ble_eq_true rfl) ?_
            show gg p l e s m args below meth c G (d + 1) MX12_man Q 61 [some (.ref 82), some (.int a1), some (.int a2), some (.int v8)] [] h8
            refine go_iload_n (x := v8) dX12_man_61 rfl ?_
            refine go_iconst (v := (-1)) dX12_man_62 rfl ?_
            refine go_icmp_eq 79 dX12_man_63 rfl (fun q => ?_) (fun q => ?_)
            · replace vc := vc.1 q
              refine go_aload_n (x := 82) dX12_man_79 rfl ?_
              refine go_getR (x := 133) dX12_man_80 f12_166 sh82 (fun _ _ => rfl) (rf82_68 hR) ?_
              refine go_iconst (v := 2) dX12_man_83 rfl ?_
              refine go_iconst (v := 4) dX12_man_84 rfl ?_
              refine go_iload_n (x := a1) dX12_man_85 rfl ?_
              refine go_imul dX12_man_86 ?_
              refine go_iadd dX12_man_87 ?_
              refine go_iconst (v := 3) dX12_man_88 rfl ?_
              refine go_iadd dX12_man_89 ?_
              refine go_iload_n (x := a2) dX12_man_90 rfl ?_
              refine go_iast dX12_man_91 sh133 vc.1 ?_
              have vc := vc.2
              show gg p l e s m args below meth c G (d + 1) MX12_man Q 92 [some (.ref 82), some (.int a1), some (.int a2), some (.int v8)] [] (sI h8 133 (((2 + (4 * a1)) + 3) : Int32).toNatClampNeg a2)
              refine go_iconst (v := 1) dX12_man_92 rfl ?_
              exact go_zret dX12_man_93 rfl (by decide) vc rfl (Nat.le_refl _) (Nat.le_refl _)
            · replace vc := vc.2 q
              refine go_aload_n (x := 82) dX12_man_66 rfl ?_
              refine go_getR (x := 133) dX12_man_67 f12_166 sh82 (fun _ _ => rfl) (rf82_68 hR) ?_
              refine go_iconst (v := 2) dX12_man_70 rfl ?_
              refine go_iconst (v := 4) dX12_man_71 rfl ?_
              refine go_iload_n (x := v8) dX12_man_72 rfl ?_
              refine go_imul dX12_man_73 ?_
              refine go_iadd dX12_man_74 ?_
              refine go_iconst (v := 3) dX12_man_75 rfl ?_
              refine go_iadd dX12_man_76 ?_
              refine go_iconst (v := (-1)) dX12_man_77 rfl ?_
              refine go_iast dX12_man_78 sh133 vc.1 ?_
              have vc := vc.2
              show gg p l e s m args below meth c G (d + 1) MX12_man Q 79 [some (.ref 82), some (.int a1), some (.int a2), some (.int v8)] [] (sI h8 133 (((2 + (4 * v8)) + 3) : Int32).toNatClampNeg (-1))
              refine go_aload_n (x := 82) dX12_man_79 rfl ?_
              refine go_getR (x := 133) dX12_man_80 f12_166 sh82 (fun _ _ => rfl) (rf82_68 hR) ?_
              refine go_iconst (v := 2) dX12_man_83 rfl ?_
              refine go_iconst (v := 4) dX12_man_84 rfl ?_
              refine go_iload_n (x := a1) dX12_man_85 rfl ?_
              refine go_imul dX12_man_86 ?_
              refine go_iadd dX12_man_87 ?_
              refine go_iconst (v := 3) dX12_man_88 rfl ?_
              refine go_iadd dX12_man_89 ?_
              refine go_iload_n (x := a2) dX12_man_90 rfl ?_
              refine go_iast dX12_man_91 sh133 vc.1 ?_
              have vc := vc.2
              show gg p l e s m args below meth c G (d + 1) MX12_man Q 92 [some (.ref 82), some (.int a1), some (.int a2), some (.int v8)] [] (sI (sI h8 133 (((2 + (4 * v8)) + 3) : Int32).toNatClampNeg (-1)) 133 (((2 + (4 * a1)) + 3) : Int32).toNatClampNeg a2)
              refine go_iconst (v := 1) dX12_man_92 rfl ?_
              exact go_zret dX12_man_93 rfl (by decide) vc rfl (Nat.le_refl _) (Nat.le_refl _)
          · replace vc := vc.2 q
            refine go_iconst (v := (-1)) dX12_man_51 rfl ?_
            refine go_goto 60 dX12_man_52 rfl ?_
            refine go_istore_n dX12_man_60 (Nat.le_of_ble_eq_true rfl) ?_
            show gg p l e s m args below meth c G (d + 1) MX12_man Q 61 [some (.ref 82), some (.int a1), some (.int a2), some (.int (-1))] [] h7
            refine go_iload_n (x := (-1)) dX12_man_61 rfl ?_
            refine go_iconst (v := (-1)) dX12_man_62 rfl ?_
            refine go_icmp_eq 79 dX12_man_63 rfl (fun q => ?_) (fun q => absurd q (by decide))
            refine go_aload_n (x := 82) dX12_man_79 rfl ?_
            refine go_getR (x := 133) dX12_man_80 f12_166 sh82 (fun _ _ => rfl) (rf82_68 hR) ?_
            refine go_iconst (v := 2) dX12_man_83 rfl ?_
            refine go_iconst (v := 4) dX12_man_84 rfl ?_
            refine go_iload_n (x := a1) dX12_man_85 rfl ?_
            refine go_imul dX12_man_86 ?_
            refine go_iadd dX12_man_87 ?_
            refine go_iconst (v := 3) dX12_man_88 rfl ?_
            refine go_iadd dX12_man_89 ?_
            refine go_iload_n (x := a2) dX12_man_90 rfl ?_
            refine go_iast dX12_man_91 sh133 vc.1 ?_
            have vc := vc.2
            show gg p l e s m args below meth c G (d + 1) MX12_man Q 92 [some (.ref 82), some (.int a1), some (.int a2), some (.int (-1))] [] (sI h7 133 (((2 + (4 * a1)) + 3) : Int32).toNatClampNeg a2)
            refine go_iconst (v := 1) dX12_man_92 rfl ?_
            exact go_zret dX12_man_93 rfl (by decide) vc rfl (Nat.le_refl _) (Nat.le_refl _)
        · replace vc := vc.2 q
          refine go_aload_n (x := 82) dX12_man_30 rfl ?_
          refine go_getR (x := 84) dX12_man_31 f12_17 sh82 (fun _ _ => rfl) (rf82_9 hR) ?_
          refine go_iconst (v := 3) dX12_man_34 rfl ?_
          refine go_dup2 dX12_man_35 rfl rfl ?_
          refine go_iald' (v := (h6.1 84 3)) dX12_man_36 sh84 (by unfold vp_in; decide) rfl ?_
          refine go_iconst (v := 1) dX12_man_37 rfl ?_
          refine go_iadd dX12_man_38 ?_
          refine go_iast dX12_man_39 sh84 (by unfold vp_in; decide) ?_
          refine go_iconst (v := 0) dX12_man_40 rfl ?_
          exact go_zret dX12_man_41 rfl (by decide) vc rfl (Nat.le_refl _) (Nat.le_refl _)
set_option maxRecDepth 20000 in
theorem wX12_hours_0 {p : Program} {l : Launch} {e : Env} {s : State} {m : MethodId} {args : Array Value} {below : List Frame} {meth : Method} {c : Code} {G : gG} {d : Nat} {Q : Option Value → gH → Prop} {h : gH} {lk sp : Nat} {cd : Option Nat} {a1 : Int32} (hR : h.2.2 = gRF lk sp cd) (hlk : lk = 30 ∨ lk = 67) (hsp : sp = 30 ∨ sp = 67)  (vc : (((h.1 82 58) = 0 → gC l G d MX12_refuses [.ref 82, .int 3] h (rI fun v1 h1 => h1.2.2 = (h).2.2 ∧ Q (some (.int v1)) h1)) ∧ (¬ (h.1 82 58) = 0 → gC l G d MX12_isIn [.long (a1 : Int32).toInt64, .long 1, .long 200] h (rI fun v2 h2 => h2.2.2 = (h).2.2 ∧ ((v2 = 0 → gC l G d MX12_refuses [.ref 82, .int 3] h2 (rI fun v3 h3 => h3.2.2 = (h2).2.2 ∧ Q (some (.int v3)) h3)) ∧ (¬ v2 = 0 → ((((h2.1 133 0) + a1) ≤ 999 → gC l G d MX12_keeps [.ref 82] h2 (rV fun h4 => h4.2.2 = (h2).2.2 ∧ gC l G d MX12_skyIn [.ref 82, .int ((h4.1 133 0) + a1)] (sI h4 133 0 ((h4.1 133 0) + a1)) (rI fun v5 h5 => h5.2.2 = ((sI h4 133 0 ((h4.1 133 0) + a1))).2.2 ∧ Q (some (.int v5)) h5))) ∧ (¬ ((h2.1 133 0) + a1) ≤ 999 → gC l G d MX12_refuses [.ref 82, .int 3] h2 (rI fun v6 h6 => h6.2.2 = (h2).2.2 ∧ Q (some (.int v6)) h6))))))))) : gg p l e s m args below meth c G (d + 1) MX12_hours Q 0 [some (.ref 82), some (.int a1)] [] h := by
  refine go_aload_n (x := 82) dX12_hours_0 rfl ?_
  refine go_getI' (v := (h.1 82 58)) dX12_hours_1 f12_422 sh82 (fun _ _ => rfl) rfl ?_
  refine go_if_eq 33 dX12_hours_4 rfl (fun q => ?_) (fun q => ?_)
  · replace vc := vc.1 q
    refine go_aload_n (x := 82) dX12_hours_33 rfl ?_
    refine go_iconst (v := 3) dX12_hours_34 rfl ?_
    refine gvI1 MX12_refuses dX12_hours_35 lX12_656 kX12_refuses vX12_refuses sh82 (by decide) rfl (Nat.le_of_ble_eq_true rfl) vc ?_
    intro v1 h1 vc
    obtain ⟨hR1, vc⟩ := vc
    replace hR := hR1.trans hR
    exact go_iret dX12_hours_38 rfl vc rfl (Nat.le_refl _) (Nat.le_refl _)
  · replace vc := vc.2 q
    refine go_iload_n (x := a1) dX12_hours_7 rfl ?_
    refine go_i2l dX12_hours_8 ?_
    refine go_lconst (v := 1) dX12_hours_9 rfl ?_
    refine go_ldc2 (v := 200) dX12_hours_10 nX12_665 ?_
    refine gsI3 MX12_isIn dX12_hours_13 lX12_321 kX12_isIn sX12_isIn (Nat.le_of_ble_eq_true rfl) vc ?_
    intro v2 h2 vc
    obtain ⟨hR2, vc⟩ := vc
    replace hR := hR2.trans hR
    refine go_if_eq 33 dX12_hours_16 rfl (fun q => ?_) (fun q => ?_)
    · replace vc := vc.1 q
      refine go_aload_n (x := 82) dX12_hours_33 rfl ?_
      refine go_iconst (v := 3) dX12_hours_34 rfl ?_
      refine gvI1 MX12_refuses dX12_hours_35 lX12_656 kX12_refuses vX12_refuses sh82 (by decide) rfl (Nat.le_of_ble_eq_true rfl) vc ?_
      intro v3 h3 vc
      obtain ⟨hR3, vc⟩ := vc
      replace hR := hR3.trans hR
      exact go_iret dX12_hours_38 rfl vc rfl (Nat.le_refl _) (Nat.le_refl _)
    · replace vc := vc.2 q
      refine go_aload_n (x := 82) dX12_hours_19 rfl ?_
      refine go_getR (x := 133) dX12_hours_20 f12_166 sh82 (fun _ _ => rfl) (rf82_68 hR) ?_
      refine go_iconst (v := 0) dX12_hours_23 rfl ?_
      refine go_iald' (v := (h2.1 133 0)) dX12_hours_24 sh133 (by unfold vp_in; decide) rfl ?_
      refine go_iload_n (x := a1) dX12_hours_25 rfl ?_
      refine go_iadd dX12_hours_26 ?_
      refine go_sipush (v := 999) dX12_hours_27 rfl ?_
      refine go_icmp_le 39 dX12_hours_30 rfl (fun q => ?_) (fun q => ?_)
      · replace vc := vc.1 q
        refine go_aload_n (x := 82) dX12_hours_39 rfl ?_
        refine gvV0 MX12_keeps dX12_hours_40 lX12_659 kX12_keeps vX12_keeps sh82 (by decide) rfl (Nat.le_of_ble_eq_true rfl) vc ?_
        intro h4 vc
        obtain ⟨hR4, vc⟩ := vc
        replace hR := hR4.trans hR
        refine go_aload_n (x := 82) dX12_hours_43 rfl ?_
        refine go_getR (x := 133) dX12_hours_44 f12_166 sh82 (fun _ _ => rfl) (rf82_68 hR) ?_
        refine go_iconst (v := 0) dX12_hours_47 rfl ?_
        refine go_dup2 dX12_hours_48 rfl rfl ?_
        refine go_iald' (v := (h4.1 133 0)) dX12_hours_49 sh133 (by unfold vp_in; decide) rfl ?_
        refine go_iload_n (x := a1) dX12_hours_50 rfl ?_
        refine go_iadd dX12_hours_51 ?_
        refine go_iast dX12_hours_52 sh133 (by unfold vp_in; decide) ?_
        refine go_aload_n (x := 82) dX12_hours_53 rfl ?_
        refine go_aload_n (x := 82) dX12_hours_54 rfl ?_
        refine go_getR (x := 133) dX12_hours_55 f12_166 sh82 (fun _ _ => rfl) (rf82_68 hR) ?_
        refine go_iconst (v := 0) dX12_hours_58 rfl ?_
        refine go_iald' (v := ((h4.1 133 0) + a1)) dX12_hours_59 sh133 (by unfold vp_in; decide) rfl ?_
        refine gvI1 MX12_skyIn dX12_hours_60 lX12_513 kX12_skyIn vX12_skyIn sh82 (by decide) rfl (Nat.le_of_ble_eq_true rfl) vc ?_
        intro v5 h5 vc
        obtain ⟨hR5, vc⟩ := vc
        replace hR := hR5.trans hR
        exact go_iret dX12_hours_63 rfl vc rfl (Nat.le_refl _) (Nat.le_refl _)
      · replace vc := vc.2 q
        refine go_aload_n (x := 82) dX12_hours_33 rfl ?_
        refine go_iconst (v := 3) dX12_hours_34 rfl ?_
        refine gvI1 MX12_refuses dX12_hours_35 lX12_656 kX12_refuses vX12_refuses sh82 (by decide) rfl (Nat.le_of_ble_eq_true rfl) vc ?_
        intro v6 h6 vc
        obtain ⟨hR6, vc⟩ := vc
        replace hR := hR6.trans hR
        exact go_iret dX12_hours_38 rfl vc rfl (Nat.le_refl _) (Nat.le_refl _)
set_option maxRecDepth 20000 in
theorem wX12_seed_0 {p : Program} {l : Launch} {e : Env} {s : State} {m : MethodId} {args : Array Value} {below : List Frame} {meth : Method} {c : Code} {G : gG} {d : Nat} {Q : Option Value → gH → Prop} {h : gH} {lk sp : Nat} {cd : Option Nat} {a1 : Int32} (hR : h.2.2 = gRF lk sp cd) (hlk : lk = 30 ∨ lk = 67) (hsp : sp = 30 ∨ sp = 67)  (vc : ((0 ≤ a1 → Q (some (.int 1)) (sL h 82 82 (a1 : Int32).toInt64)) ∧ (¬ 0 ≤ a1 → Q (some (.int 0)) (sI h 84 5 ((h.1 84 5) + 1))))) : gg p l e s m args below meth c G d MX12_seed Q 0 [some (.ref 82), some (.int a1)] [] h := by
  refine go_iload_n (x := a1) dX12_seed_0 rfl ?_
  refine go_if_ge 16 dX12_seed_1 rfl (fun q => ?_) (fun q => ?_)
  · replace vc := vc.1 q
    refine go_aload_n (x := 82) dX12_seed_16 rfl ?_
    refine go_iload_n (x := a1) dX12_seed_17 rfl ?_
    refine go_i2l dX12_seed_18 ?_
    refine go_putL dX12_seed_19 f12_196 sh82 rfl rfl ?_
    refine go_iconst (v := 1) dX12_seed_22 rfl ?_
    exact go_zret dX12_seed_23 rfl (by decide) vc rfl (Nat.le_refl _) (Nat.le_refl _)
  · replace vc := vc.2 q
    refine go_aload_n (x := 82) dX12_seed_4 rfl ?_
    refine go_getR (x := 84) dX12_seed_5 f12_17 sh82 (fun _ _ => rfl) (rf82_9 hR) ?_
    refine go_iconst (v := 5) dX12_seed_8 rfl ?_
    refine go_dup2 dX12_seed_9 rfl rfl ?_
    refine go_iald' (v := (h.1 84 5)) dX12_seed_10 sh84 (by unfold vp_in; decide) rfl ?_
    refine go_iconst (v := 1) dX12_seed_11 rfl ?_
    refine go_iadd dX12_seed_12 ?_
    refine go_iast dX12_seed_13 sh84 (by unfold vp_in; decide) ?_
    refine go_iconst (v := 0) dX12_seed_14 rfl ?_
    exact go_zret dX12_seed_15 rfl (by decide) vc rfl (Nat.le_refl _) (Nat.le_refl _)
set_option maxRecDepth 20000 in
theorem wX12_drawOf_0 {p : Program} {l : Launch} {e : Env} {s : State} {m : MethodId} {args : Array Value} {below : List Frame} {meth : Method} {c : Code} {G : gG} {d : Nat} {Q : Option Value → gH → Prop} {h : gH} {lk sp : Nat} {cd : Option Nat} {a1 : Int32} (hR : h.2.2 = gRF lk sp cd) (hlk : lk = 30 ∨ lk = 67) (hsp : sp = 30 ∨ sp = 67)  (vc : (¬ (a1 : Int32).toInt64 = 0 ∧ Q (some (.int ((((((1103515245 * (h.2.1 82 82)) + 12345) - ((1103515245 * (h.2.1 82 82)) + 12345) / 2147483648 * 2147483648) / 64) - ((((1103515245 * (h.2.1 82 82)) + 12345) - ((1103515245 * (h.2.1 82 82)) + 12345) / 2147483648 * 2147483648) / 64) / (a1 : Int32).toInt64 * (a1 : Int32).toInt64) : Int64).toInt32)) (sL h 82 82 (((1103515245 * (h.2.1 82 82)) + 12345) - ((1103515245 * (h.2.1 82 82)) + 12345) / 2147483648 * 2147483648)))) : gg p l e s m args below meth c G d MX12_drawOf Q 0 [some (.ref 82), some (.int a1)] [] h := by
  refine go_aload_n (x := 82) dX12_drawOf_0 rfl ?_
  refine go_ldc2 (v := 1103515245) dX12_drawOf_1 nX12_667 ?_
  refine go_aload_n (x := 82) dX12_drawOf_4 rfl ?_
  refine go_getL' (v := (h.2.1 82 82)) dX12_drawOf_5 f12_196 sh82 (fun _ _ => rfl) rfl ?_
  refine go_lmul dX12_drawOf_8 ?_
  refine go_ldc2 (v := 12345) dX12_drawOf_9 nX12_669 ?_
  refine go_ladd dX12_drawOf_12 ?_
  refine go_ldc2 (v := 2147483648) dX12_drawOf_13 nX12_671 ?_
  refine go_lrem dX12_drawOf_16 (by decide) ?_
  refine go_putL dX12_drawOf_17 f12_196 sh82 rfl rfl ?_
  refine go_aload_n (x := 82) dX12_drawOf_20 rfl ?_
  refine go_getL' (v := (((1103515245 * (h.2.1 82 82)) + 12345) - ((1103515245 * (h.2.1 82 82)) + 12345) / 2147483648 * 2147483648)) dX12_drawOf_21 f12_196 sh82 (fun _ _ => rfl) rfl ?_
  refine go_ldc2 (v := 64) dX12_drawOf_24 nX12_673 ?_
  refine go_ldiv dX12_drawOf_27 (by decide) ?_
  refine go_iload_n (x := a1) dX12_drawOf_28 rfl ?_
  refine go_i2l dX12_drawOf_29 ?_
  refine go_lrem dX12_drawOf_30 vc.1 ?_
  have vc := vc.2
  refine go_l2i dX12_drawOf_31 ?_
  exact go_iret dX12_drawOf_32 rfl vc rfl (Nat.le_refl _) (Nat.le_refl _)
set_option maxRecDepth 20000 in
theorem wX12_drift_0 {p : Program} {l : Launch} {e : Env} {s : State} {m : MethodId} {args : Array Value} {below : List Frame} {meth : Method} {c : Code} {G : gG} {d : Nat} {Q : Option Value → gH → Prop} {h : gH} {lk sp : Nat} {cd : Option Nat} {a1 : Int32} (hR : h.2.2 = gRF lk sp cd) (hlk : lk = 30 ∨ lk = 67) (hsp : sp = 30 ∨ sp = 67)  (vc : (((h.1 82 58) = 0 → gC l G d MX12_refuses [.ref 82, .int 3] h (rI fun v1 h1 => h1.2.2 = (h).2.2 ∧ Q (some (.int v1)) h1)) ∧ (¬ (h.1 82 58) = 0 → gC l G d MX12_isIn [.long (a1 : Int32).toInt64, .long 1, .long 50] h (rI fun v2 h2 => h2.2.2 = (h).2.2 ∧ ((v2 = 0 → gC l G d MX12_refuses [.ref 82, .int 3] h2 (rI fun v3 h3 => h3.2.2 = (h2).2.2 ∧ Q (some (.int v3)) h3)) ∧ (¬ v2 = 0 → ((((h2.1 133 0) + a1) ≤ 999 → gC l G d MX12_keeps [.ref 82] h2 (rV fun h4 => h4.2.2 = (h2).2.2 ∧ gg p l e s m args below meth c G (d + 1) MX12_drift Q 47 [some (.ref 82), some (.int a1), some (.int 0), some (.int 0), none, none] [] h4)) ∧ (¬ ((h2.1 133 0) + a1) ≤ 999 → gC l G d MX12_refuses [.ref 82, .int 3] h2 (rI fun v5 h5 => h5.2.2 = (h2).2.2 ∧ Q (some (.int v5)) h5))))))))) : gg p l e s m args below meth c G (d + 1) MX12_drift Q 0 [some (.ref 82), some (.int a1), none, none, none, none] [] h := by
  refine go_aload_n (x := 82) dX12_drift_0 rfl ?_
  refine go_getI' (v := (h.1 82 58)) dX12_drift_1 f12_422 sh82 (fun _ _ => rfl) rfl ?_
  refine go_if_eq 33 dX12_drift_4 rfl (fun q => ?_) (fun q => ?_)
  · replace vc := vc.1 q
    refine go_aload_n (x := 82) dX12_drift_33 rfl ?_
    refine go_iconst (v := 3) dX12_drift_34 rfl ?_
    refine gvI1 MX12_refuses dX12_drift_35 lX12_656 kX12_refuses vX12_refuses sh82 (by decide) rfl (Nat.le_of_ble_eq_true rfl) vc ?_
    intro v1 h1 vc
    obtain ⟨hR1, vc⟩ := vc
    replace hR := hR1.trans hR
    exact go_iret dX12_drift_38 rfl vc rfl (Nat.le_refl _) (Nat.le_refl _)
  · replace vc := vc.2 q
    refine go_iload_n (x := a1) dX12_drift_7 rfl ?_
    refine go_i2l dX12_drift_8 ?_
    refine go_lconst (v := 1) dX12_drift_9 rfl ?_
    refine go_ldc2 (v := 50) dX12_drift_10 nX12_675 ?_
    refine gsI3 MX12_isIn dX12_drift_13 lX12_321 kX12_isIn sX12_isIn (Nat.le_of_ble_eq_true rfl) vc ?_
    intro v2 h2 vc
    obtain ⟨hR2, vc⟩ := vc
    replace hR := hR2.trans hR
    refine go_if_eq 33 dX12_drift_16 rfl (fun q => ?_) (fun q => ?_)
    · replace vc := vc.1 q
      refine go_aload_n (x := 82) dX12_drift_33 rfl ?_
      refine go_iconst (v := 3) dX12_drift_34 rfl ?_
      refine gvI1 MX12_refuses dX12_drift_35 lX12_656 kX12_refuses vX12_refuses sh82 (by decide) rfl (Nat.le_of_ble_eq_true rfl) vc ?_
      intro v3 h3 vc
      obtain ⟨hR3, vc⟩ := vc
      replace hR := hR3.trans hR
      exact go_iret dX12_drift_38 rfl vc rfl (Nat.le_refl _) (Nat.le_refl _)
    · replace vc := vc.2 q
      refine go_aload_n (x := 82) dX12_drift_19 rfl ?_
      refine go_getR (x := 133) dX12_drift_20 f12_166 sh82 (fun _ _ => rfl) (rf82_68 hR) ?_
      refine go_iconst (v := 0) dX12_drift_23 rfl ?_
      refine go_iald' (v := (h2.1 133 0)) dX12_drift_24 sh133 (by unfold vp_in; decide) rfl ?_
      refine go_iload_n (x := a1) dX12_drift_25 rfl ?_
      refine go_iadd dX12_drift_26 ?_
      refine go_sipush (v := 999) dX12_drift_27 rfl ?_
      refine go_icmp_le 39 dX12_drift_30 rfl (fun q => ?_) (fun q => ?_)
      · replace vc := vc.1 q
        refine go_aload_n (x := 82) dX12_drift_39 rfl ?_
        refine gvV0 MX12_keeps dX12_drift_40 lX12_659 kX12_keeps vX12_keeps sh82 (by decide) rfl (Nat.le_of_ble_eq_true rfl) vc ?_
        intro h4 vc
        obtain ⟨hR4, vc⟩ := vc
        replace hR := hR4.trans hR
        refine go_iconst (v := 0) dX12_drift_43 rfl ?_
        refine go_istore_n dX12_drift_44 (Nat.le_of_ble_eq_true rfl) ?_
        show gg p l e s m args below meth c G (d + 1) MX12_drift Q 45 [some (.ref 82), some (.int a1), some (.int 0), none, none, none] [] h4
        refine go_iconst (v := 0) dX12_drift_45 rfl ?_
        refine go_istore_n dX12_drift_46 (Nat.le_of_ble_eq_true rfl) ?_
        show gg p l e s m args below meth c G (d + 1) MX12_drift Q 47 [some (.ref 82), some (.int a1), some (.int 0), some (.int 0), none, none] [] h4
        exact vc
      · replace vc := vc.2 q
        refine go_aload_n (x := 82) dX12_drift_33 rfl ?_
        refine go_iconst (v := 3) dX12_drift_34 rfl ?_
        refine gvI1 MX12_refuses dX12_drift_35 lX12_656 kX12_refuses vX12_refuses sh82 (by decide) rfl (Nat.le_of_ble_eq_true rfl) vc ?_
        intro v5 h5 vc
        obtain ⟨hR5, vc⟩ := vc
        replace hR := hR5.trans hR
        exact go_iret dX12_drift_38 rfl vc rfl (Nat.le_refl _) (Nat.le_refl _)
set_option maxRecDepth 20000 in
theorem wX12_drift_47 {p : Program} {l : Launch} {e : Env} {s : State} {m : MethodId} {args : Array Value} {below : List Frame} {meth : Method} {c : Code} {G : gG} {d : Nat} {Q : Option Value → gH → Prop} {h : gH} {lk sp : Nat} {cd : Option Nat} {x1 : Int32} {x2 : Int32} {x3 : Int32} (hR : h.2.2 = gRF lk sp cd) (hlk : lk = 30 ∨ lk = 67) (hsp : sp = 30 ∨ sp = 67)  (vc : ((x1 ≤ x3 → Q (some (.int x2)) h) ∧ (¬ x1 ≤ x3 → gg p l e s m args below meth c G (d + 1) MX12_drift Q 55 [some (.ref 82), some (.int x1), some (.int x2), some (.int x3), some (.int 0), none] [] h))) : gg p l e s m args below meth c G (d + 1) MX12_drift Q 47 [some (.ref 82), some (.int x1), some (.int x2), some (.int x3), none, none] [] h := by
  refine go_iload_n (x := x3) dX12_drift_47 rfl ?_
  refine go_iload_n (x := x1) dX12_drift_48 rfl ?_
  refine go_icmp_ge 133 dX12_drift_49 rfl (fun q => ?_) (fun q => ?_)
  · replace vc := vc.1 q
    refine go_iload_n (x := x2) dX12_drift_133 rfl ?_
    exact go_iret dX12_drift_134 rfl vc rfl (Nat.le_refl _) (Nat.le_refl _)
  · replace vc := vc.2 q
    refine go_iconst (v := 0) dX12_drift_52 rfl ?_
    refine go_istore dX12_drift_53 (Nat.le_of_ble_eq_true rfl) ?_
    show gg p l e s m args below meth c G (d + 1) MX12_drift Q 55 [some (.ref 82), some (.int x1), some (.int x2), some (.int x3), some (.int 0), none] [] h
    exact vc
set_option maxRecDepth 20000 in
theorem wX12_drift_55 {p : Program} {l : Launch} {e : Env} {s : State} {m : MethodId} {args : Array Value} {below : List Frame} {meth : Method} {c : Code} {G : gG} {d : Nat} {Q : Option Value → gH → Prop} {h : gH} {lk sp : Nat} {cd : Option Nat} {x1 : Int32} {x2 : Int32} {x3 : Int32} {x4 : Int32} (hR : h.2.2 = gRF lk sp cd) (hlk : lk = 30 ∨ lk = 67) (hsp : sp = 30 ∨ sp = 67)  (vc : gC l G d MX12_boatMany [.ref 82] h (rI fun v1 h1 => h1.2.2 = (h).2.2 ∧ ((v1 ≤ x4 → gg p l e s m args below meth c G (d + 1) MX12_drift Q 47 [some (.ref 82), some (.int x1), some (.int x2), some (.int (x3 + 1)), none, none] [] (sI h1 133 0 ((h1.1 133 0) + 1))) ∧ (¬ v1 ≤ x4 → gC l G d MX12_cellOf [.ref 82, .int x4] h1 (rI fun v2 h2 => h2.2.2 = (h1).2.2 ∧ gC l G d MX12_drawOf [.ref 82, .int 4] h2 (rI fun v3 h3 => h3.2.2 = (h2).2.2 ∧ gC l G d MX12_beside [.ref 82, .int v2, .int v3] h3 (rI fun v4 h4 => h4.2.2 = (h3).2.2 ∧ ((v4 = (-1) → gg p l e s m args below meth c G (d + 1) MX12_drift Q 55 [some (.ref 82), some (.int x1), some (.int x2), some (.int x3), some (.int (x4 + 1)), none] [] h4) ∧ (¬ v4 = (-1) → gC l G d MX12_isLand [.ref 82, .int v4] h4 (rI fun v5 h5 => h5.2.2 = (h4).2.2 ∧ ((¬ v5 = 0 → gg p l e s m args below meth c G (d + 1) MX12_drift Q 55 [some (.ref 82), some (.int x1), some (.int x2), some (.int x3), some (.int (x4 + 1)), none] [] h5) ∧ (v5 = 0 → gC l G d MX12_tries [.ref 82, .int x4, .int v4, .int (-1)] h5 (rI fun v6 h6 => h6.2.2 = (h5).2.2 ∧ ((v6 = 0 → gg p l e s m args below meth c G (d + 1) MX12_drift Q 55 [some (.ref 82), some (.int x1), some (.int x2), some (.int x3), some (.int (x4 + 1)), none] [] h6) ∧ (¬ v6 = 0 → gg p l e s m args below meth c G (d + 1) MX12_drift Q 55 [some (.ref 82), some (.int x1), some (.int (x2 + 1)), some (.int x3), some (.int (x4 + 1)), none] [] h6))))))))))))))) : gg p l e s m args below meth c G (d + 1) MX12_drift Q 55 [some (.ref 82), some (.int x1), some (.int x2), some (.int x3), some (.int x4), none] [] h := by
  refine go_iload (x := x4) dX12_drift_55 rfl ?_
  refine go_aload_n (x := 82) dX12_drift_57 rfl ?_
  refine gvI0 MX12_boatMany dX12_drift_58 lX12_483 kX12_boatMany vX12_boatMany sh82 (by decide) rfl (Nat.le_of_ble_eq_true rfl) vc ?_
  intro v1 h1 vc
  obtain ⟨hR1, vc⟩ := vc
  replace hR := hR1.trans hR
  refine go_icmp_ge 117 dX12_drift_61 rfl (fun q => ?_) (fun q => ?_)
  · replace vc := vc.1 q
    refine go_aload_n (x := 82) dX12_drift_117 rfl ?_
    refine go_getR (x := 133) dX12_drift_118 f12_166 sh82 (fun _ _ => rfl) (rf82_68 hR) ?_
    refine go_iconst (v := 0) dX12_drift_121 rfl ?_
    refine go_dup2 dX12_drift_122 rfl rfl ?_
    refine go_iald' (v := (h1.1 133 0)) dX12_drift_123 sh133 (by unfold vp_in; decide) rfl ?_
    refine go_iconst (v := 1) dX12_drift_124 rfl ?_
    refine go_iadd dX12_drift_125 ?_
    refine go_iast dX12_drift_126 sh133 (by unfold vp_in; decide) ?_
    refine go_iinc (x := x3) dX12_drift_127 rfl ?_
    show gg p l e s m args below meth c G (d + 1) MX12_drift Q 130 [some (.ref 82), some (.int x1), some (.int x2), some (.int (x3 + 1)), some (.int x4), none] [] (sI h1 133 0 ((h1.1 133 0) + 1))
    refine go_goto 47 dX12_drift_130 rfl ?_
    refine go_weak (ls' := [some (.ref 82), some (.int x1), some (.int x2), some (.int (x3 + 1)), none, none]) ?_ vc
    exact (⟨rfl, ⟨rfl, ⟨rfl, ⟨rfl, trivial⟩⟩⟩⟩)
  · replace vc := vc.2 q
    refine go_aload_n (x := 82) dX12_drift_64 rfl ?_
    refine go_aload_n (x := 82) dX12_drift_65 rfl ?_
    refine go_iload (x := x4) dX12_drift_66 rfl ?_
    refine gvI1 MX12_cellOf dX12_drift_68 lX12_504 kX12_cellOf vX12_cellOf sh82 (by decide) rfl (Nat.le_of_ble_eq_true rfl) vc ?_
    intro v2 h2 vc
    obtain ⟨hR2, vc⟩ := vc
    replace hR := hR2.trans hR
    refine go_aload_n (x := 82) dX12_drift_71 rfl ?_
    refine go_iconst (v := 4) dX12_drift_72 rfl ?_
    refine gvI1 MX12_drawOf dX12_drift_73 lX12_677 kX12_drawOf vX12_drawOf sh82 (by decide) rfl (Nat.le_of_ble_eq_true rfl) vc ?_
    intro v3 h3 vc
    obtain ⟨hR3, vc⟩ := vc
    replace hR := hR3.trans hR
    refine gvI2 MX12_beside dX12_drift_76 lX12_587 kX12_beside vX12_beside sh82 (by decide) rfl (Nat.le_of_ble_eq_true rfl) vc ?_
    intro v4 h4 vc
    obtain ⟨hR4, vc⟩ := vc
    replace hR := hR4.trans hR
    refine go_istore dX12_drift_79 (Nat.le_of_ble_eq_true rfl) ?_
    show gg p l e s m args below meth c G (d + 1) MX12_drift Q 81 [some (.ref 82), some (.int x1), some (.int x2), some (.int x3), some (.int x4), some (.int v4)] [] h4
    refine go_iload (x := v4) dX12_drift_81 rfl ?_
    refine go_iconst (v := (-1)) dX12_drift_83 rfl ?_
    refine go_icmp_eq 111 dX12_drift_84 rfl (fun q => ?_) (fun q => ?_)
    · replace vc := vc.1 q
      refine go_iinc (x := x4) dX12_drift_111 rfl ?_
      show gg p l e s m args below meth c G (d + 1) MX12_drift Q 114 [some (.ref 82), some (.int x1), some (.int x2), some (.int x3), some (.int (x4 + 1)), some (.int v4)] [] h4
      refine go_goto 55 dX12_drift_114 rfl ?_
      refine go_weak (ls' := [some (.ref 82), some (.int x1), some (.int x2), some (.int x3), some (.int (x4 + 1)), none]) ?_ vc
      exact (⟨rfl, ⟨rfl, ⟨rfl, ⟨rfl, ⟨rfl, trivial⟩⟩⟩⟩⟩)
    · replace vc := vc.2 q
      refine go_aload_n (x := 82) dX12_drift_87 rfl ?_
      refine go_iload (x := v4) dX12_drift_88 rfl ?_
      refine gvI1 MX12_isLand dX12_drift_90 lX12_492 kX12_isLand vX12_isLand sh82 (by decide) rfl (Nat.le_of_ble_eq_true rfl) vc ?_
      intro v5 h5 vc
      obtain ⟨hR5, vc⟩ := vc
      replace hR := hR5.trans hR
      refine go_if_ne 111 dX12_drift_93 rfl (fun q => ?_) (fun q => ?_)
      · replace vc := vc.1 q
        refine go_iinc (x := x4) dX12_drift_111 rfl ?_
        show gg p l e s m args below meth c G (d + 1) MX12_drift Q 114 [some (.ref 82), some (.int x1), some (.int x2), some (.int x3), some (.int (x4 + 1)), some (.int v4)] [] h5
        refine go_goto 55 dX12_drift_114 rfl ?_
        refine go_weak (ls' := [some (.ref 82), some (.int x1), some (.int x2), some (.int x3), some (.int (x4 + 1)), none]) ?_ vc
        exact (⟨rfl, ⟨rfl, ⟨rfl, ⟨rfl, ⟨rfl, trivial⟩⟩⟩⟩⟩)
      · replace vc := vc.2 q
        refine go_aload_n (x := 82) dX12_drift_96 rfl ?_
        refine go_iload (x := x4) dX12_drift_97 rfl ?_
        refine go_iload (x := v4) dX12_drift_99 rfl ?_
        refine go_iconst (v := (-1)) dX12_drift_101 rfl ?_
        refine gvI3 MX12_tries dX12_drift_102 lX12_612 kX12_tries vX12_tries sh82 (by decide) rfl (Nat.le_of_ble_eq_true rfl) vc ?_
        intro v6 h6 vc
        obtain ⟨hR6, vc⟩ := vc
        replace hR := hR6.trans hR
        refine go_if_eq 111 dX12_drift_105 rfl (fun q => ?_) (fun q => ?_)
        · replace vc := vc.1 q
          refine go_iinc (x := x4) dX12_drift_111 rfl ?_
          show gg p l e s m args below meth c G (d + 1) MX12_drift Q 114 [some (.ref 82), some (.int x1), some (.int x2), some (.int x3), some (.int (x4 + 1)), some (.int v4)] [] h6
          refine go_goto 55 dX12_drift_114 rfl ?_
          refine go_weak (ls' := [some (.ref 82), some (.int x1), some (.int x2), some (.int x3), some (.int (x4 + 1)), none]) ?_ vc
          exact (⟨rfl, ⟨rfl, ⟨rfl, ⟨rfl, ⟨rfl, trivial⟩⟩⟩⟩⟩)
        · replace vc := vc.2 q
          refine go_iinc (x := x2) dX12_drift_108 rfl ?_
          show gg p l e s m args below meth c G (d + 1) MX12_drift Q 111 [some (.ref 82), some (.int x1), some (.int (x2 + 1)), some (.int x3), some (.int x4), some (.int v4)] [] h6
          refine go_iinc (x := x4) dX12_drift_111 rfl ?_
          show gg p l e s m args below meth c G (d + 1) MX12_drift Q 114 [some (.ref 82), some (.int x1), some (.int (x2 + 1)), some (.int x3), some (.int (x4 + 1)), some (.int v4)] [] h6
          refine go_goto 55 dX12_drift_114 rfl ?_
          refine go_weak (ls' := [some (.ref 82), some (.int x1), some (.int (x2 + 1)), some (.int x3), some (.int (x4 + 1)), none]) ?_ vc
          exact (⟨rfl, ⟨rfl, ⟨rfl, ⟨rfl, ⟨rfl, trivial⟩⟩⟩⟩⟩)
set_option maxRecDepth 20000 in
theorem wX12_qCode_0 {p : Program} {l : Launch} {e : Env} {s : State} {m : MethodId} {args : Array Value} {below : List Frame} {meth : Method} {c : Code} {G : gG} {d : Nat} {Q : Option Value → gH → Prop} {h : gH} {lk sp : Nat} {cd : Option Nat} {a1 : Int32} (hR : h.2.2 = gRF lk sp cd) (hlk : lk = 30 ∨ lk = 67) (hsp : sp = 30 ∨ sp = 67)  (vc : (vp_in ((h.1 82 106)) 1700 ∧ Q none (sI (sI h 164 ((h.1 82 106) : Int32).toNatClampNeg a1) 82 106 ((h.1 82 106) + 1)))) : gg p l e s m args below meth c G d MX12_qCode Q 0 [some (.ref 82), some (.int a1)] [] h := by
  refine go_aload_n (x := 82) dX12_qCode_0 rfl ?_
  refine go_getR (x := 164) dX12_qCode_1 f12_263 sh82 (fun _ _ => rfl) (rf82_105 hR) ?_
  refine go_aload_n (x := 82) dX12_qCode_4 rfl ?_
  refine go_getI' (v := (h.1 82 106)) dX12_qCode_5 f12_680 sh82 (fun _ _ => rfl) rfl ?_
  refine go_iload_n (x := a1) dX12_qCode_8 rfl ?_
  refine go_iast dX12_qCode_9 sh164 vc.1 ?_
  have vc := vc.2
  show gg p l e s m args below meth c G d MX12_qCode Q 10 [some (.ref 82), some (.int a1)] [] (sI h 164 ((h.1 82 106) : Int32).toNatClampNeg a1)
  refine go_aload_n (x := 82) dX12_qCode_10 rfl ?_
  refine go_dup dX12_qCode_11 rfl ?_
  refine go_getI' (v := (h.1 82 106)) dX12_qCode_12 f12_680 sh82 (fun _ _ => rfl) rfl ?_
  refine go_iconst (v := 1) dX12_qCode_15 rfl ?_
  refine go_iadd dX12_qCode_16 ?_
  refine go_putI dX12_qCode_17 f12_680 sh82 rfl rfl ?_
  exact go_vret dX12_qCode_20 rfl vc rfl (Nat.le_refl _) (Nat.le_refl _)
set_option maxRecDepth 20000 in
theorem wX12_qOpens_0 {p : Program} {l : Launch} {e : Env} {s : State} {m : MethodId} {args : Array Value} {below : List Frame} {meth : Method} {c : Code} {G : gG} {d : Nat} {Q : Option Value → gH → Prop} {h : gH} {lk sp : Nat} {cd : Option Nat} {a1 : Int32} {a2 : Int32} (hR : h.2.2 = gRF lk sp cd) (hlk : lk = 30 ∨ lk = 67) (hsp : sp = 30 ∨ sp = 67)  (vc : (((h.1 82 5) = 0 → ((¬ (h.1 82 109) = 6 → (vp_in ((h.1 82 108)) 1700 ∧ Q none (sI (sI (sI h 82 109 ((h.1 82 109) + 1)) 165 ((h.1 82 108) : Int32).toNatClampNeg a1) 82 108 ((h.1 82 108) + 1)))) ∧ ((h.1 82 109) = 6 → gC l G d MX12_fail [.ref 82, .int 4, .int a2] h (rV fun h1 => h1.2.2 = (h).2.2 ∧ Q none h1)))) ∧ (¬ (h.1 82 5) = 0 → Q none h))) : gg p l e s m args below meth c G (d + 1) MX12_qOpens Q 0 [some (.ref 82), some (.int a1), some (.int a2)] [] h := by
  refine go_aload_n (x := 82) dX12_qOpens_0 rfl ?_
  refine go_getI' (v := (h.1 82 5)) dX12_qOpens_1 f12_278 sh82 (fun _ _ => rfl) rfl ?_
  refine go_if_eq 8 dX12_qOpens_4 rfl (fun q => ?_) (fun q => ?_)
  · replace vc := vc.1 q
    refine go_aload_n (x := 82) dX12_qOpens_8 rfl ?_
    refine go_getI' (v := (h.1 82 109)) dX12_qOpens_9 f12_683 sh82 (fun _ _ => rfl) rfl ?_
    refine go_bipush (v := 6) dX12_qOpens_12 rfl ?_
    refine go_icmp_ne 24 dX12_qOpens_14 rfl (fun q => ?_) (fun q => ?_)
    · replace vc := vc.1 q
      refine go_aload_n (x := 82) dX12_qOpens_24 rfl ?_
      refine go_dup dX12_qOpens_25 rfl ?_
      refine go_getI' (v := (h.1 82 109)) dX12_qOpens_26 f12_683 sh82 (fun _ _ => rfl) rfl ?_
      refine go_iconst (v := 1) dX12_qOpens_29 rfl ?_
      refine go_iadd dX12_qOpens_30 ?_
      refine go_putI dX12_qOpens_31 f12_683 sh82 rfl rfl ?_
      refine go_aload_n (x := 82) dX12_qOpens_34 rfl ?_
      refine go_getR (x := 165) dX12_qOpens_35 f12_266 sh82 (fun _ _ => rfl) (rf82_107 hR) ?_
      refine go_aload_n (x := 82) dX12_qOpens_38 rfl ?_
      refine go_getI' (v := (h.1 82 108)) dX12_qOpens_39 f12_686 sh82 (fun _ _ => rfl) rfl ?_
      refine go_iload_n (x := a1) dX12_qOpens_42 rfl ?_
      refine go_iast dX12_qOpens_43 sh165 vc.1 ?_
      have vc := vc.2
      show gg p l e s m args below meth c G (d + 1) MX12_qOpens Q 44 [some (.ref 82), some (.int a1), some (.int a2)] [] (sI (sI h 82 109 ((h.1 82 109) + 1)) 165 ((h.1 82 108) : Int32).toNatClampNeg a1)
      refine go_aload_n (x := 82) dX12_qOpens_44 rfl ?_
      refine go_dup dX12_qOpens_45 rfl ?_
      refine go_getI' (v := (h.1 82 108)) dX12_qOpens_46 f12_686 sh82 (fun _ _ => rfl) rfl ?_
      refine go_iconst (v := 1) dX12_qOpens_49 rfl ?_
      refine go_iadd dX12_qOpens_50 ?_
      refine go_putI dX12_qOpens_51 f12_686 sh82 rfl rfl ?_
      exact go_vret dX12_qOpens_54 rfl vc rfl (Nat.le_refl _) (Nat.le_refl _)
    · replace vc := vc.2 q
      refine go_aload_n (x := 82) dX12_qOpens_17 rfl ?_
      refine go_iconst (v := 4) dX12_qOpens_18 rfl ?_
      refine go_iload_n (x := a2) dX12_qOpens_19 rfl ?_
      refine gvV2 MX12_fail dX12_qOpens_20 lX12_308 kX12_fail vX12_fail sh82 (by decide) rfl (Nat.le_of_ble_eq_true rfl) vc ?_
      intro h1 vc
      obtain ⟨hR1, vc⟩ := vc
      replace hR := hR1.trans hR
      exact go_vret dX12_qOpens_23 rfl vc rfl (Nat.le_refl _) (Nat.le_refl _)
  · replace vc := vc.2 q
    exact go_vret dX12_qOpens_7 rfl vc rfl (Nat.le_refl _) (Nat.le_refl _)
set_option maxRecDepth 20000 in
theorem wX12_qIsOn_0 {p : Program} {l : Launch} {e : Env} {s : State} {m : MethodId} {args : Array Value} {below : List Frame} {meth : Method} {c : Code} {G : gG} {d : Nat} {Q : Option Value → gH → Prop} {h : gH} {lk sp : Nat} {cd : Option Nat} {a1 : Int32} (hR : h.2.2 = gRF lk sp cd) (hlk : lk = 30 ∨ lk = 67) (hsp : sp = 30 ∨ sp = 67)  (vc : (((h.1 82 108) ≤ 0 → Q (some (.int 0)) h) ∧ (¬ (h.1 82 108) ≤ 0 → (vp_in (((h.1 82 108) - 1)) 1700 ∧ ((¬ (h.1 165 (((h.1 82 108) - 1) : Int32).toNatClampNeg) = a1 → Q (some (.int 0)) h) ∧ ((h.1 165 (((h.1 82 108) - 1) : Int32).toNatClampNeg) = a1 → Q (some (.int 1)) h)))))) : gg p l e s m args below meth c G d MX12_qIsOn Q 0 [some (.ref 82), some (.int a1)] [] h := by
  refine go_aload_n (x := 82) dX12_qIsOn_0 rfl ?_
  refine go_getI' (v := (h.1 82 108)) dX12_qIsOn_1 f12_686 sh82 (fun _ _ => rfl) rfl ?_
  refine go_if_le 26 dX12_qIsOn_4 rfl (fun q => ?_) (fun q => ?_)
  · replace vc := vc.1 q
    refine go_iconst (v := 0) dX12_qIsOn_26 rfl ?_
    exact go_zret dX12_qIsOn_27 rfl (by decide) vc rfl (Nat.le_refl _) (Nat.le_refl _)
  · replace vc := vc.2 q
    refine go_aload_n (x := 82) dX12_qIsOn_7 rfl ?_
    refine go_getR (x := 165) dX12_qIsOn_8 f12_266 sh82 (fun _ _ => rfl) (rf82_107 hR) ?_
    refine go_aload_n (x := 82) dX12_qIsOn_11 rfl ?_
    refine go_getI' (v := (h.1 82 108)) dX12_qIsOn_12 f12_686 sh82 (fun _ _ => rfl) rfl ?_
    refine go_iconst (v := 1) dX12_qIsOn_15 rfl ?_
    refine go_isub dX12_qIsOn_16 ?_
    refine go_iald' (v := (h.1 165 (((h.1 82 108) - 1) : Int32).toNatClampNeg)) dX12_qIsOn_17 sh165 vc.1 rfl ?_
    have vc := vc.2
    refine go_iload_n (x := a1) dX12_qIsOn_18 rfl ?_
    refine go_icmp_ne 26 dX12_qIsOn_19 rfl (fun q => ?_) (fun q => ?_)
    · replace vc := vc.1 q
      refine go_iconst (v := 0) dX12_qIsOn_26 rfl ?_
      exact go_zret dX12_qIsOn_27 rfl (by decide) vc rfl (Nat.le_refl _) (Nat.le_refl _)
    · replace vc := vc.2 q
      refine go_iconst (v := 1) dX12_qIsOn_22 rfl ?_
      refine go_goto 27 dX12_qIsOn_23 rfl ?_
      exact go_zret dX12_qIsOn_27 rfl (by decide) vc rfl (Nat.le_refl _) (Nat.le_refl _)
set_option maxRecDepth 20000 in
theorem wX12_qDrops_0 {p : Program} {l : Launch} {e : Env} {s : State} {m : MethodId} {args : Array Value} {below : List Frame} {meth : Method} {c : Code} {G : gG} {d : Nat} {Q : Option Value → gH → Prop} {h : gH} {lk sp : Nat} {cd : Option Nat}  (hR : h.2.2 = gRF lk sp cd) (hlk : lk = 30 ∨ lk = 67) (hsp : sp = 30 ∨ sp = 67)  (vc : (vp_in (((h.1 82 108) - 1)) 1700 ∧ gC l G d MX12_qCode [.ref 82, .int (h.1 165 (((h.1 82 108) - 1) : Int32).toNatClampNeg)] (sI h 82 108 ((h.1 82 108) - 1)) (rV fun h1 => h1.2.2 = ((sI h 82 108 ((h.1 82 108) - 1))).2.2 ∧ Q none h1))) : gg p l e s m args below meth c G (d + 1) MX12_qDrops Q 0 [some (.ref 82)] [] h := by
  refine go_aload_n (x := 82) dX12_qDrops_0 rfl ?_
  refine go_dup dX12_qDrops_1 rfl ?_
  refine go_getI' (v := (h.1 82 108)) dX12_qDrops_2 f12_686 sh82 (fun _ _ => rfl) rfl ?_
  refine go_iconst (v := 1) dX12_qDrops_5 rfl ?_
  refine go_isub dX12_qDrops_6 ?_
  refine go_putI dX12_qDrops_7 f12_686 sh82 rfl rfl ?_
  refine go_aload_n (x := 82) dX12_qDrops_10 rfl ?_
  refine go_aload_n (x := 82) dX12_qDrops_11 rfl ?_
  refine go_getR (x := 165) dX12_qDrops_12 f12_266 sh82 (fun _ _ => rfl) (rf82_107 hR) ?_
  refine go_aload_n (x := 82) dX12_qDrops_15 rfl ?_
  refine go_getI' (v := ((h.1 82 108) - 1)) dX12_qDrops_16 f12_686 sh82 (fun _ _ => rfl) rfl ?_
  refine go_iald' (v := (h.1 165 (((h.1 82 108) - 1) : Int32).toNatClampNeg)) dX12_qDrops_19 sh165 vc.1 rfl ?_
  have vc := vc.2
  refine gvV1 MX12_qCode dX12_qDrops_20 lX12_689 kX12_qCode vX12_qCode sh82 (by decide) rfl (Nat.le_of_ble_eq_true rfl) vc ?_
  intro h1 vc
  obtain ⟨hR1, vc⟩ := vc
  replace hR := hR1.trans hR
  exact go_vret dX12_qDrops_23 rfl vc rfl (Nat.le_refl _) (Nat.le_refl _)
set_option maxRecDepth 20000 in
theorem wX12_qIsBracket_0 {p : Program} {l : Launch} {e : Env} {s : State} {m : MethodId} {args : Array Value} {below : List Frame} {meth : Method} {c : Code} {G : gG} {d : Nat} {Q : Option Value → gH → Prop} {h : gH} {lk sp : Nat} {cd : Option Nat} {a1 : Int32} (hR : h.2.2 = gRF lk sp cd) (hlk : lk = 30 ∨ lk = 67) (hsp : sp = 30 ∨ sp = 67)  (vc : ((a1 < 20 → Q (some (.int 0)) h) ∧ (¬ a1 < 20 → ((24 < a1 → Q (some (.int 0)) h) ∧ (¬ 24 < a1 → Q (some (.int 1)) h))))) : gg p l e s m args below meth c G d MX12_qIsBracket Q 0 [some (.int a1)] [] h := by
  refine go_iload_n (x := a1) dX12_qIsBracket_0 rfl ?_
  refine go_bipush (v := 20) dX12_qIsBracket_1 rfl ?_
  refine go_icmp_lt 16 dX12_qIsBracket_3 rfl (fun q => ?_) (fun q => ?_)
  · replace vc := vc.1 q
    refine go_iconst (v := 0) dX12_qIsBracket_16 rfl ?_
    exact go_zret dX12_qIsBracket_17 rfl (by decide) vc rfl (Nat.le_refl _) (Nat.le_refl _)
  · replace vc := vc.2 q
    refine go_iload_n (x := a1) dX12_qIsBracket_6 rfl ?_
    refine go_bipush (v := 24) dX12_qIsBracket_7 rfl ?_
    refine go_icmp_gt 16 dX12_qIsBracket_9 rfl (fun q => ?_) (fun q => ?_)
    · replace vc := vc.1 q
      refine go_iconst (v := 0) dX12_qIsBracket_16 rfl ?_
      exact go_zret dX12_qIsBracket_17 rfl (by decide) vc rfl (Nat.le_refl _) (Nat.le_refl _)
    · replace vc := vc.2 q
      refine go_iconst (v := 1) dX12_qIsBracket_12 rfl ?_
      refine go_goto 17 dX12_qIsBracket_13 rfl ?_
      exact go_zret dX12_qIsBracket_17 rfl (by decide) vc rfl (Nat.le_refl _) (Nat.le_refl _)
set_option maxRecDepth 20000 in
theorem wX12_qBracket_0 {p : Program} {l : Launch} {e : Env} {s : State} {m : MethodId} {args : Array Value} {below : List Frame} {meth : Method} {c : Code} {G : gG} {d : Nat} {Q : Option Value → gH → Prop} {h : gH} {lk sp : Nat} {cd : Option Nat}  (hR : h.2.2 = gRF lk sp cd) (hlk : lk = 30 ∨ lk = 67) (hsp : sp = 30 ∨ sp = 67)  (vc : gg p l e s m args below meth c G (d + 1) MX12_qBracket Q 7 [some (.ref 82), some (.int ((h.1 82 108) - 1))] [] h) : gg p l e s m args below meth c G (d + 1) MX12_qBracket Q 0 [some (.ref 82), none] [] h := by
  refine go_aload_n (x := 82) dX12_qBracket_0 rfl ?_
  refine go_getI' (v := (h.1 82 108)) dX12_qBracket_1 f12_686 sh82 (fun _ _ => rfl) rfl ?_
  refine go_iconst (v := 1) dX12_qBracket_4 rfl ?_
  refine go_isub dX12_qBracket_5 ?_
  refine go_istore_n dX12_qBracket_6 (Nat.le_of_ble_eq_true rfl) ?_
  show gg p l e s m args below meth c G (d + 1) MX12_qBracket Q 7 [some (.ref 82), some (.int ((h.1 82 108) - 1))] [] h
  exact vc
set_option maxRecDepth 20000 in
theorem wX12_qBracket_7 {p : Program} {l : Launch} {e : Env} {s : State} {m : MethodId} {args : Array Value} {below : List Frame} {meth : Method} {c : Code} {G : gG} {d : Nat} {Q : Option Value → gH → Prop} {h : gH} {lk sp : Nat} {cd : Option Nat} {x1 : Int32} (hR : h.2.2 = gRF lk sp cd) (hlk : lk = 30 ∨ lk = 67) (hsp : sp = 30 ∨ sp = 67)  (vc : ((x1 < (h.1 82 110) → ((x1 < (h.1 82 110) → Q (some (.int (-1))) h) ∧ (¬ x1 < (h.1 82 110) → (vp_in x1 1700 ∧ Q (some (.int (h.1 165 x1.toNatClampNeg))) h)))) ∧ (¬ x1 < (h.1 82 110) → (vp_in x1 1700 ∧ gC l G d MX12_qIsBracket [.int (h.1 165 x1.toNatClampNeg)] h (rI fun v1 h1 => h1.2.2 = (h).2.2 ∧ ((¬ v1 = 0 → ((x1 < (h1.1 82 110) → Q (some (.int (-1))) h1) ∧ (¬ x1 < (h1.1 82 110) → (vp_in x1 1700 ∧ Q (some (.int (h1.1 165 x1.toNatClampNeg))) h1)))) ∧ (v1 = 0 → gg p l e s m args below meth c G (d + 1) MX12_qBracket Q 7 [some (.ref 82), some (.int (x1 + (-1)))] [] h1))))))) : gg p l e s m args below meth c G (d + 1) MX12_qBracket Q 7 [some (.ref 82), some (.int x1)] [] h := by
  refine go_iload_n (x := x1) dX12_qBracket_7 rfl ?_
  refine go_aload_n (x := 82) dX12_qBracket_8 rfl ?_
  refine go_getI' (v := (h.1 82 110)) dX12_qBracket_9 f12_692 sh82 (fun _ _ => rfl) rfl ?_
  refine go_icmp_lt 33 dX12_qBracket_12 rfl (fun q => ?_) (fun q => ?_)
  · replace vc := vc.1 q
    refine go_iload_n (x := x1) dX12_qBracket_33 rfl ?_
    refine go_aload_n (x := 82) dX12_qBracket_34 rfl ?_
    refine go_getI' (v := (h.1 82 110)) dX12_qBracket_35 f12_692 sh82 (fun _ _ => rfl) rfl ?_
    refine go_icmp_lt 50 dX12_qBracket_38 rfl (fun q => ?_) (fun q => ?_)
    · replace vc := vc.1 q
      refine go_iconst (v := (-1)) dX12_qBracket_50 rfl ?_
      exact go_iret dX12_qBracket_51 rfl vc rfl (Nat.le_refl _) (Nat.le_refl _)
    · replace vc := vc.2 q
      refine go_aload_n (x := 82) dX12_qBracket_41 rfl ?_
      refine go_getR (x := 165) dX12_qBracket_42 f12_266 sh82 (fun _ _ => rfl) (rf82_107 hR) ?_
      refine go_iload_n (x := x1) dX12_qBracket_45 rfl ?_
      refine go_iald' (v := (h.1 165 x1.toNatClampNeg)) dX12_qBracket_46 sh165 vc.1 rfl ?_
      have vc := vc.2
      refine go_goto 51 dX12_qBracket_47 rfl ?_
      exact go_iret dX12_qBracket_51 rfl vc rfl (Nat.le_refl _) (Nat.le_refl _)
  · replace vc := vc.2 q
    refine go_aload_n (x := 82) dX12_qBracket_15 rfl ?_
    refine go_getR (x := 165) dX12_qBracket_16 f12_266 sh82 (fun _ _ => rfl) (rf82_107 hR) ?_
    refine go_iload_n (x := x1) dX12_qBracket_19 rfl ?_
    refine go_iald' (v := (h.1 165 x1.toNatClampNeg)) dX12_qBracket_20 sh165 vc.1 rfl ?_
    have vc := vc.2
    refine gsI1 MX12_qIsBracket dX12_qBracket_21 lX12_695 kX12_qIsBracket sX12_qIsBracket (Nat.le_of_ble_eq_true rfl) vc ?_
    intro v1 h1 vc
    obtain ⟨hR1, vc⟩ := vc
    replace hR := hR1.trans hR
    refine go_if_ne 33 dX12_qBracket_24 rfl (fun q => ?_) (fun q => ?_)
    · replace vc := vc.1 q
      refine go_iload_n (x := x1) dX12_qBracket_33 rfl ?_
      refine go_aload_n (x := 82) dX12_qBracket_34 rfl ?_
      refine go_getI' (v := (h1.1 82 110)) dX12_qBracket_35 f12_692 sh82 (fun _ _ => rfl) rfl ?_
      refine go_icmp_lt 50 dX12_qBracket_38 rfl (fun q => ?_) (fun q => ?_)
      · replace vc := vc.1 q
        refine go_iconst (v := (-1)) dX12_qBracket_50 rfl ?_
        exact go_iret dX12_qBracket_51 rfl vc rfl (Nat.le_refl _) (Nat.le_refl _)
      · replace vc := vc.2 q
        refine go_aload_n (x := 82) dX12_qBracket_41 rfl ?_
        refine go_getR (x := 165) dX12_qBracket_42 f12_266 sh82 (fun _ _ => rfl) (rf82_107 hR) ?_
        refine go_iload_n (x := x1) dX12_qBracket_45 rfl ?_
        refine go_iald' (v := (h1.1 165 x1.toNatClampNeg)) dX12_qBracket_46 sh165 vc.1 rfl ?_
        have vc := vc.2
        refine go_goto 51 dX12_qBracket_47 rfl ?_
        exact go_iret dX12_qBracket_51 rfl vc rfl (Nat.le_refl _) (Nat.le_refl _)
    · replace vc := vc.2 q
      refine go_iinc (x := x1) dX12_qBracket_27 rfl ?_
      show gg p l e s m args below meth c G (d + 1) MX12_qBracket Q 30 [some (.ref 82), some (.int (x1 + (-1)))] [] h1
      refine go_goto 7 dX12_qBracket_30 rfl ?_
      exact vc
set_option maxRecDepth 20000 in
theorem wX12_qDropsToBracket_0 {p : Program} {l : Launch} {e : Env} {s : State} {m : MethodId} {args : Array Value} {below : List Frame} {meth : Method} {c : Code} {G : gG} {d : Nat} {Q : Option Value → gH → Prop} {h : gH} {lk sp : Nat} {cd : Option Nat}  (hR : h.2.2 = gRF lk sp cd) (hlk : lk = 30 ∨ lk = 67) (hsp : sp = 30 ∨ sp = 67)  (vc : (((h.1 82 108) ≤ (h.1 82 110) → Q none h) ∧ (¬ (h.1 82 108) ≤ (h.1 82 110) → (vp_in (((h.1 82 108) - 1)) 1700 ∧ gC l G d MX12_qIsBracket [.int (h.1 165 (((h.1 82 108) - 1) : Int32).toNatClampNeg)] h (rI fun v1 h1 => h1.2.2 = (h).2.2 ∧ ((¬ v1 = 0 → Q none h1) ∧ (v1 = 0 → gC l G d MX12_qDrops [.ref 82] h1 (rV fun h2 => h2.2.2 = (h1).2.2 ∧ gg p l e s m args below meth c G (d + 1) MX12_qDropsToBracket Q 0 [some (.ref 82)] [] h2)))))))) : gg p l e s m args below meth c G (d + 1) MX12_qDropsToBracket Q 0 [some (.ref 82)] [] h := by
  refine go_aload_n (x := 82) dX12_qDropsToBracket_0 rfl ?_
  refine go_getI' (v := (h.1 82 108)) dX12_qDropsToBracket_1 f12_686 sh82 (fun _ _ => rfl) rfl ?_
  refine go_aload_n (x := 82) dX12_qDropsToBracket_4 rfl ?_
  refine go_getI' (v := (h.1 82 110)) dX12_qDropsToBracket_5 f12_692 sh82 (fun _ _ => rfl) rfl ?_
  refine go_icmp_le 35 dX12_qDropsToBracket_8 rfl (fun q => ?_) (fun q => ?_)
  · replace vc := vc.1 q
    exact go_vret dX12_qDropsToBracket_35 rfl vc rfl (Nat.le_refl _) (Nat.le_refl _)
  · replace vc := vc.2 q
    refine go_aload_n (x := 82) dX12_qDropsToBracket_11 rfl ?_
    refine go_getR (x := 165) dX12_qDropsToBracket_12 f12_266 sh82 (fun _ _ => rfl) (rf82_107 hR) ?_
    refine go_aload_n (x := 82) dX12_qDropsToBracket_15 rfl ?_
    refine go_getI' (v := (h.1 82 108)) dX12_qDropsToBracket_16 f12_686 sh82 (fun _ _ => rfl) rfl ?_
    refine go_iconst (v := 1) dX12_qDropsToBracket_19 rfl ?_
    refine go_isub dX12_qDropsToBracket_20 ?_
    refine go_iald' (v := (h.1 165 (((h.1 82 108) - 1) : Int32).toNatClampNeg)) dX12_qDropsToBracket_21 sh165 vc.1 rfl ?_
    have vc := vc.2
    refine gsI1 MX12_qIsBracket dX12_qDropsToBracket_22 lX12_695 kX12_qIsBracket sX12_qIsBracket (Nat.le_of_ble_eq_true rfl) vc ?_
    intro v1 h1 vc
    obtain ⟨hR1, vc⟩ := vc
    replace hR := hR1.trans hR
    refine go_if_ne 35 dX12_qDropsToBracket_25 rfl (fun q => ?_) (fun q => ?_)
    · replace vc := vc.1 q
      exact go_vret dX12_qDropsToBracket_35 rfl vc rfl (Nat.le_refl _) (Nat.le_refl _)
    · replace vc := vc.2 q
      refine go_aload_n (x := 82) dX12_qDropsToBracket_28 rfl ?_
      refine gvV0 MX12_qDrops dX12_qDropsToBracket_29 lX12_698 kX12_qDrops vX12_qDrops sh82 (by decide) rfl (Nat.le_of_ble_eq_true rfl) vc ?_
      intro h2 vc
      obtain ⟨hR2, vc⟩ := vc
      replace hR := hR2.trans hR
      refine go_goto 0 dX12_qDropsToBracket_32 rfl ?_
      exact vc
set_option maxRecDepth 20000 in
theorem wX12_qWordHere_0 {p : Program} {l : Launch} {e : Env} {s : State} {m : MethodId} {args : Array Value} {below : List Frame} {meth : Method} {c : Code} {G : gG} {d : Nat} {Q : Option Value → gH → Prop} {h : gH} {lk sp : Nat} {cd : Option Nat}  (hR : h.2.2 = gRF lk sp cd) (hlk : lk = 30 ∨ lk = 67) (hsp : sp = 30 ∨ sp = 67)  (vc : gC l G d MX12_isHere [.ref 82, .ref 155] h (rI fun v1 h1 => h1.2.2 = (h).2.2 ∧ ((v1 = 0 → gC l G d MX12_isHere [.ref 82, .ref 156] h1 (rI fun v2 h2 => h2.2.2 = (h1).2.2 ∧ ((v2 = 0 → gC l G d MX12_isHere [.ref 82, .ref 157] h2 (rI fun v3 h3 => h3.2.2 = (h2).2.2 ∧ ((v3 = 0 → gC l G d MX12_isHere [.ref 82, .ref 158] h3 (rI fun v4 h4 => h4.2.2 = (h3).2.2 ∧ ((v4 = 0 → gC l G d MX12_isHere [.ref 82, .ref 159] h4 (rI fun v5 h5 => h5.2.2 = (h4).2.2 ∧ ((v5 = 0 → gC l G d MX12_isHere [.ref 82, .ref 160] h5 (rI fun v6 h6 => h6.2.2 = (h5).2.2 ∧ ((v6 = 0 → gC l G d MX12_isHere [.ref 82, .ref 161] h6 (rI fun v7 h7 => h7.2.2 = (h6).2.2 ∧ ((v7 = 0 → gC l G d MX12_isHere [.ref 82, .ref 162] h7 (rI fun v8 h8 => h8.2.2 = (h7).2.2 ∧ ((v8 = 0 → gC l G d MX12_isHere [.ref 82, .ref 163] h8 (rI fun v9 h9 => h9.2.2 = (h8).2.2 ∧ ((v9 = 0 → Q (some (.int (-1))) h9) ∧ (¬ v9 = 0 → Q (some (.int 8)) h9)))) ∧ (¬ v8 = 0 → Q (some (.int 7)) h8)))) ∧ (¬ v7 = 0 → Q (some (.int 6)) h7)))) ∧ (¬ v6 = 0 → Q (some (.int 5)) h6)))) ∧ (¬ v5 = 0 → Q (some (.int 4)) h5)))) ∧ (¬ v4 = 0 → Q (some (.int 3)) h4)))) ∧ (¬ v3 = 0 → Q (some (.int 2)) h3)))) ∧ (¬ v2 = 0 → Q (some (.int 1)) h2)))) ∧ (¬ v1 = 0 → Q (some (.int 0)) h1)))) : gg p l e s m args below meth c G (d + 1) MX12_qWordHere Q 0 [some (.ref 82)] [] h := by
  refine go_aload_n (x := 82) dX12_qWordHere_0 rfl ?_
  refine go_aload_n (x := 82) dX12_qWordHere_1 rfl ?_
  refine go_getR (x := 155) dX12_qWordHere_2 f12_236 sh82 (fun _ _ => rfl) (rf82_96 hR) ?_
  refine gvI1 MX12_isHere dX12_qWordHere_5 lX12_301 kX12_isHere vX12_isHere sh82 (by decide) rfl (Nat.le_of_ble_eq_true rfl) vc ?_
  intro v1 h1 vc
  obtain ⟨hR1, vc⟩ := vc
  replace hR := hR1.trans hR
  refine go_if_eq 13 dX12_qWordHere_8 rfl (fun q => ?_) (fun q => ?_)
  · replace vc := vc.1 q
    refine go_aload_n (x := 82) dX12_qWordHere_13 rfl ?_
    refine go_aload_n (x := 82) dX12_qWordHere_14 rfl ?_
    refine go_getR (x := 156) dX12_qWordHere_15 f12_239 sh82 (fun _ _ => rfl) (rf82_97 hR) ?_
    refine gvI1 MX12_isHere dX12_qWordHere_18 lX12_301 kX12_isHere vX12_isHere sh82 (by decide) rfl (Nat.le_of_ble_eq_true rfl) vc ?_
    intro v2 h2 vc
    obtain ⟨hR2, vc⟩ := vc
    replace hR := hR2.trans hR
    refine go_if_eq 26 dX12_qWordHere_21 rfl (fun q => ?_) (fun q => ?_)
    · replace vc := vc.1 q
      refine go_aload_n (x := 82) dX12_qWordHere_26 rfl ?_
      refine go_aload_n (x := 82) dX12_qWordHere_27 rfl ?_
      refine go_getR (x := 157) dX12_qWordHere_28 f12_242 sh82 (fun _ _ => rfl) (rf82_98 hR) ?_
      refine gvI1 MX12_isHere dX12_qWordHere_31 lX12_301 kX12_isHere vX12_isHere sh82 (by decide) rfl (Nat.le_of_ble_eq_true rfl) vc ?_
      intro v3 h3 vc
      obtain ⟨hR3, vc⟩ := vc
      replace hR := hR3.trans hR
      refine go_if_eq 39 dX12_qWordHere_34 rfl (fun q => ?_) (fun q => ?_)
      · replace vc := vc.1 q
        refine go_aload_n (x := 82) dX12_qWordHere_39 rfl ?_
        refine go_aload_n (x := 82) dX12_qWordHere_40 rfl ?_
        refine go_getR (x := 158) dX12_qWordHere_41 f12_245 sh82 (fun _ _ => rfl) (rf82_99 hR) ?_
        refine gvI1 MX12_isHere dX12_qWordHere_44 lX12_301 kX12_isHere vX12_isHere sh82 (by decide) rfl (Nat.le_of_ble_eq_true rfl) vc ?_
        intro v4 h4 vc
        obtain ⟨hR4, vc⟩ := vc
        replace hR := hR4.trans hR
        refine go_if_eq 52 dX12_qWordHere_47 rfl (fun q => ?_) (fun q => ?_)
        · replace vc := vc.1 q
          refine go_aload_n (x := 82) dX12_qWordHere_52 rfl ?_
          refine go_aload_n (x := 82) dX12_qWordHere_53 rfl ?_
          refine go_getR (x := 159) dX12_qWordHere_54 f12_248 sh82 (fun _ _ => rfl) (rf82_100 hR) ?_
          refine gvI1 MX12_isHere dX12_qWordHere_57 lX12_301 kX12_isHere vX12_isHere sh82 (by decide) rfl (Nat.le_of_ble_eq_true rfl) vc ?_
          intro v5 h5 vc
          obtain ⟨hR5, vc⟩ := vc
          replace hR := hR5.trans hR
          refine go_if_eq 65 dX12_qWordHere_60 rfl (fun q => ?_) (fun q => ?_)
          · replace vc := vc.1 q
            refine go_aload_n (x := 82) dX12_qWordHere_65 rfl ?_
            refine go_aload_n (x := 82) dX12_qWordHere_66 rfl ?_
            refine go_getR (x := 160) dX12_qWordHere_67 f12_251 sh82 (fun _ _ => rfl) (rf82_101 hR) ?_
            refine gvI1 MX12_isHere dX12_qWordHere_70 lX12_301 kX12_isHere vX12_isHere sh82 (by decide) rfl (Nat.le_of_ble_eq_true rfl) vc ?_
            intro v6 h6 vc
            obtain ⟨hR6, vc⟩ := vc
            replace hR := hR6.trans hR
            refine go_if_eq 78 dX12_qWordHere_73 rfl (fun q => ?_) (fun q => ?_)
            · replace vc := vc.1 q
              refine go_aload_n (x := 82) dX12_qWordHere_78 rfl ?_
              refine go_aload_n (x := 82) dX12_qWordHere_79 rfl ?_
              refine go_getR (x := 161) dX12_qWordHere_80 f12_254 sh82 (fun _ _ => rfl) (rf82_102 hR) ?_
              refine gvI1 MX12_isHere dX12_qWordHere_83 lX12_301 kX12_isHere vX12_isHere sh82 (by decide) rfl (Nat.le_of_ble_eq_true rfl) vc ?_
              intro v7 h7 vc
              obtain ⟨hR7, vc⟩ := vc
              replace hR := hR7.trans hR
              refine go_if_eq 92 dX12_qWordHere_86 rfl (fun q => ?_) (fun q => ?_)
              · replace vc := vc.1 q
                refine go_aload_n (x := 82) dX12_qWordHere_92 rfl ?_
                refine go_aload_n (x := 82) dX12_qWordHere_93 rfl ?_
                refine go_getR (x := 162) dX12_qWordHere_94 f12_257 sh82 (fun _ _ => rfl) (rf82_103 hR) ?_
                refine gvI1 MX12_isHere dX12_qWordHere_97 lX12_301 kX12_isHere vX12_isHere sh82 (by decide) rfl (Nat.le_of_ble_eq_true rfl) vc ?_
                intro v8 h8 vc
                obtain ⟨hR8, vc⟩ := vc
                replace hR := hR8.trans hR
                refine go_if_eq 106 dX12_qWordHere_100 rfl (fun q => ?_) (fun q => ?_)
                · replace vc := vc.1 q
                  refine go_aload_n (x := 82) dX12_qWordHere_106 rfl ?_
                  refine go_aload_n (x := 82) dX12_qWordHere_107 rfl ?_
                  refine go_getR (x := 163) dX12_qWordHere_108 f12_260 sh82 (fun _ _ => rfl) (rf82_104 hR) ?_
                  refine gvI1 MX12_isHere dX12_qWordHere_111 lX12_301 kX12_isHere vX12_isHere sh82 (by decide) rfl (Nat.le_of_ble_eq_true rfl) vc ?_
                  intro v9 h9 vc
                  obtain ⟨hR9, vc⟩ := vc
                  replace hR := hR9.trans hR
                  refine go_if_eq 120 dX12_qWordHere_114 rfl (fun q => ?_) (fun q => ?_)
                  · replace vc := vc.1 q
                    refine go_iconst (v := (-1)) dX12_qWordHere_120 rfl ?_
                    exact go_iret dX12_qWordHere_121 rfl vc rfl (Nat.le_refl _) (Nat.le_refl _)
                  · replace vc := vc.2 q
                    refine go_bipush (v := 8) dX12_qWordHere_117 rfl ?_
                    exact go_iret dX12_qWordHere_119 rfl vc rfl (Nat.le_refl _) (Nat.le_refl _)
                · replace vc := vc.2 q
                  refine go_bipush (v := 7) dX12_qWordHere_103 rfl ?_
                  exact go_iret dX12_qWordHere_105 rfl vc rfl (Nat.le_refl _) (Nat.le_refl _)
              · replace vc := vc.2 q
                refine go_bipush (v := 6) dX12_qWordHere_89 rfl ?_
                exact go_iret dX12_qWordHere_91 rfl vc rfl (Nat.le_refl _) (Nat.le_refl _)
            · replace vc := vc.2 q
              refine go_iconst (v := 5) dX12_qWordHere_76 rfl ?_
              exact go_iret dX12_qWordHere_77 rfl vc rfl (Nat.le_refl _) (Nat.le_refl _)
          · replace vc := vc.2 q
            refine go_iconst (v := 4) dX12_qWordHere_63 rfl ?_
            exact go_iret dX12_qWordHere_64 rfl vc rfl (Nat.le_refl _) (Nat.le_refl _)
        · replace vc := vc.2 q
          refine go_iconst (v := 3) dX12_qWordHere_50 rfl ?_
          exact go_iret dX12_qWordHere_51 rfl vc rfl (Nat.le_refl _) (Nat.le_refl _)
      · replace vc := vc.2 q
        refine go_iconst (v := 2) dX12_qWordHere_37 rfl ?_
        exact go_iret dX12_qWordHere_38 rfl vc rfl (Nat.le_refl _) (Nat.le_refl _)
    · replace vc := vc.2 q
      refine go_iconst (v := 1) dX12_qWordHere_24 rfl ?_
      exact go_iret dX12_qWordHere_25 rfl vc rfl (Nat.le_refl _) (Nat.le_refl _)
  · replace vc := vc.2 q
    refine go_iconst (v := 0) dX12_qWordHere_11 rfl ?_
    exact go_iret dX12_qWordHere_12 rfl vc rfl (Nat.le_refl _) (Nat.le_refl _)
set_option maxRecDepth 20000 in
theorem wX12_qWordOf_0 {p : Program} {l : Launch} {e : Env} {s : State} {m : MethodId} {args : Array Value} {below : List Frame} {meth : Method} {c : Code} {G : gG} {d : Nat} {Q : Option Value → gH → Prop} {h : gH} {lk sp : Nat} {cd : Option Nat} {a1 : Int32} {a2 : Int32} (hR : h.2.2 = gRF lk sp cd) (hlk : lk = 30 ∨ lk = 67) (hsp : sp = 30 ∨ sp = 67)  (vc : gC l G d MX12_qWordHere [.ref 82] h (rI fun v1 h1 => h1.2.2 = (h).2.2 ∧ ((v1 < a1 → Q (some (.int (-1))) h1) ∧ (¬ v1 < a1 → ((a2 ≤ v1 → Q (some (.int (-1))) h1) ∧ (¬ a2 ≤ v1 → Q (some (.int v1)) h1)))))) : gg p l e s m args below meth c G (d + 1) MX12_qWordOf Q 0 [some (.ref 82), some (.int a1), some (.int a2), none] [] h := by
  refine go_aload_n (x := 82) dX12_qWordOf_0 rfl ?_
  refine gvI0 MX12_qWordHere dX12_qWordOf_1 lX12_701 kX12_qWordHere vX12_qWordHere sh82 (by decide) rfl (Nat.le_of_ble_eq_true rfl) vc ?_
  intro v1 h1 vc
  obtain ⟨hR1, vc⟩ := vc
  replace hR := hR1.trans hR
  refine go_istore_n dX12_qWordOf_4 (Nat.le_of_ble_eq_true rfl) ?_
  show gg p l e s m args below meth c G (d + 1) MX12_qWordOf Q 5 [some (.ref 82), some (.int a1), some (.int a2), some (.int v1)] [] h1
  refine go_iload_n (x := v1) dX12_qWordOf_5 rfl ?_
  refine go_iload_n (x := a1) dX12_qWordOf_6 rfl ?_
  refine go_icmp_lt 19 dX12_qWordOf_7 rfl (fun q => ?_) (fun q => ?_)
  · replace vc := vc.1 q
    refine go_iconst (v := (-1)) dX12_qWordOf_19 rfl ?_
    exact go_iret dX12_qWordOf_20 rfl vc rfl (Nat.le_refl _) (Nat.le_refl _)
  · replace vc := vc.2 q
    refine go_iload_n (x := v1) dX12_qWordOf_10 rfl ?_
    refine go_iload_n (x := a2) dX12_qWordOf_11 rfl ?_
    refine go_icmp_ge 19 dX12_qWordOf_12 rfl (fun q => ?_) (fun q => ?_)
    · replace vc := vc.1 q
      refine go_iconst (v := (-1)) dX12_qWordOf_19 rfl ?_
      exact go_iret dX12_qWordOf_20 rfl vc rfl (Nat.le_refl _) (Nat.le_refl _)
    · replace vc := vc.2 q
      refine go_iload_n (x := v1) dX12_qWordOf_15 rfl ?_
      refine go_goto 20 dX12_qWordOf_16 rfl ?_
      exact go_iret dX12_qWordOf_20 rfl vc rfl (Nat.le_refl _) (Nat.le_refl _)
set_option maxRecDepth 20000 in
theorem wX12_qAsksWord_0 {p : Program} {l : Launch} {e : Env} {s : State} {m : MethodId} {args : Array Value} {below : List Frame} {meth : Method} {c : Code} {G : gG} {d : Nat} {Q : Option Value → gH → Prop} {h : gH} {lk sp : Nat} {cd : Option Nat} {a1 : Int32} (hR : h.2.2 = gRF lk sp cd) (hlk : lk = 30 ∨ lk = 67) (hsp : sp = 30 ∨ sp = 67)  (vc : ((a1 = 0 → gC l G d MX12_asks [.ref 82, .ref 155] h (rV fun h1 => h1.2.2 = (h).2.2 ∧ Q none h1)) ∧ (a1 = 1 → gC l G d MX12_asks [.ref 82, .ref 156] h (rV fun h2 => h2.2.2 = (h).2.2 ∧ Q none h2)) ∧ (a1 = 2 → gC l G d MX12_asks [.ref 82, .ref 157] h (rV fun h3 => h3.2.2 = (h).2.2 ∧ Q none h3)) ∧ (a1 = 3 → gC l G d MX12_asks [.ref 82, .ref 158] h (rV fun h4 => h4.2.2 = (h).2.2 ∧ Q none h4)) ∧ (a1 = 4 → gC l G d MX12_asks [.ref 82, .ref 159] h (rV fun h5 => h5.2.2 = (h).2.2 ∧ Q none h5)) ∧ (a1 = 5 → gC l G d MX12_asks [.ref 82, .ref 160] h (rV fun h6 => h6.2.2 = (h).2.2 ∧ Q none h6)) ∧ (a1 = 6 → gC l G d MX12_asks [.ref 82, .ref 161] h (rV fun h7 => h7.2.2 = (h).2.2 ∧ Q none h7)) ∧ (a1 = 7 → gC l G d MX12_asks [.ref 82, .ref 162] h (rV fun h8 => h8.2.2 = (h).2.2 ∧ Q none h8)) ∧ (¬ a1 = 0 → ¬ a1 = 1 → ¬ a1 = 2 → ¬ a1 = 3 → ¬ a1 = 4 → ¬ a1 = 5 → ¬ a1 = 6 → ¬ a1 = 7 → gC l G d MX12_asks [.ref 82, .ref 163] h (rV fun h9 => h9.2.2 = (h).2.2 ∧ Q none h9)))) : gg p l e s m args below meth c G (d + 1) MX12_qAsksWord Q 0 [some (.ref 82), some (.int a1)] [] h := by
  refine go_iload_n (x := a1) dX12_qAsksWord_0 rfl ?_
  by_cases q0 : a1 = 0
  · refine go_tableIn (off := 47) 48 dX12_qAsksWord_1 (by rw [q0]; decide) (by rw [q0]; decide) (by rw [q0]; rfl) rfl ?_
    replace vc := vc.1 q0
    refine go_aload_n (x := 82) dX12_qAsksWord_48 rfl ?_
    refine go_aload_n (x := 82) dX12_qAsksWord_49 rfl ?_
    refine go_getR (x := 155) dX12_qAsksWord_50 f12_236 sh82 (fun _ _ => rfl) (rf82_96 hR) ?_
    refine gvV1 MX12_asks dX12_qAsksWord_53 lX12_344 kX12_asks vX12_asks sh82 (by decide) rfl (Nat.le_of_ble_eq_true rfl) vc ?_
    intro h1 vc
    obtain ⟨hR1, vc⟩ := vc
    replace hR := hR1.trans hR
    refine go_goto 144 dX12_qAsksWord_56 rfl ?_
    exact go_vret dX12_qAsksWord_144 rfl vc rfl (Nat.le_refl _) (Nat.le_refl _)
  by_cases q1 : a1 = 1
  · refine go_tableIn (off := 58) 59 dX12_qAsksWord_1 (by rw [q1]; decide) (by rw [q1]; decide) (by rw [q1]; rfl) rfl ?_
    replace vc := vc.2.1 q1
    refine go_aload_n (x := 82) dX12_qAsksWord_59 rfl ?_
    refine go_aload_n (x := 82) dX12_qAsksWord_60 rfl ?_
    refine go_getR (x := 156) dX12_qAsksWord_61 f12_239 sh82 (fun _ _ => rfl) (rf82_97 hR) ?_
    refine gvV1 MX12_asks dX12_qAsksWord_64 lX12_344 kX12_asks vX12_asks sh82 (by decide) rfl (Nat.le_of_ble_eq_true rfl) vc ?_
    intro h2 vc
    obtain ⟨hR2, vc⟩ := vc
    replace hR := hR2.trans hR
    refine go_goto 144 dX12_qAsksWord_67 rfl ?_
    exact go_vret dX12_qAsksWord_144 rfl vc rfl (Nat.le_refl _) (Nat.le_refl _)
  by_cases q2 : a1 = 2
  · refine go_tableIn (off := 69) 70 dX12_qAsksWord_1 (by rw [q2]; decide) (by rw [q2]; decide) (by rw [q2]; rfl) rfl ?_
    replace vc := vc.2.2.1 q2
    refine go_aload_n (x := 82) dX12_qAsksWord_70 rfl ?_
    refine go_aload_n (x := 82) dX12_qAsksWord_71 rfl ?_
    refine go_getR (x := 157) dX12_qAsksWord_72 f12_242 sh82 (fun _ _ => rfl) (rf82_98 hR) ?_
    refine gvV1 MX12_asks dX12_qAsksWord_75 lX12_344 kX12_asks vX12_asks sh82 (by decide) rfl (Nat.le_of_ble_eq_true rfl) vc ?_
    intro h3 vc
    obtain ⟨hR3, vc⟩ := vc
    replace hR := hR3.trans hR
    refine go_goto 144 dX12_qAsksWord_78 rfl ?_
    exact go_vret dX12_qAsksWord_144 rfl vc rfl (Nat.le_refl _) (Nat.le_refl _)
  by_cases q3 : a1 = 3
  · refine go_tableIn (off := 80) 81 dX12_qAsksWord_1 (by rw [q3]; decide) (by rw [q3]; decide) (by rw [q3]; rfl) rfl ?_
    replace vc := vc.2.2.2.1 q3
    refine go_aload_n (x := 82) dX12_qAsksWord_81 rfl ?_
    refine go_aload_n (x := 82) dX12_qAsksWord_82 rfl ?_
    refine go_getR (x := 158) dX12_qAsksWord_83 f12_245 sh82 (fun _ _ => rfl) (rf82_99 hR) ?_
    refine gvV1 MX12_asks dX12_qAsksWord_86 lX12_344 kX12_asks vX12_asks sh82 (by decide) rfl (Nat.le_of_ble_eq_true rfl) vc ?_
    intro h4 vc
    obtain ⟨hR4, vc⟩ := vc
    replace hR := hR4.trans hR
    refine go_goto 144 dX12_qAsksWord_89 rfl ?_
    exact go_vret dX12_qAsksWord_144 rfl vc rfl (Nat.le_refl _) (Nat.le_refl _)
  by_cases q4 : a1 = 4
  · refine go_tableIn (off := 91) 92 dX12_qAsksWord_1 (by rw [q4]; decide) (by rw [q4]; decide) (by rw [q4]; rfl) rfl ?_
    replace vc := vc.2.2.2.2.1 q4
    refine go_aload_n (x := 82) dX12_qAsksWord_92 rfl ?_
    refine go_aload_n (x := 82) dX12_qAsksWord_93 rfl ?_
    refine go_getR (x := 159) dX12_qAsksWord_94 f12_248 sh82 (fun _ _ => rfl) (rf82_100 hR) ?_
    refine gvV1 MX12_asks dX12_qAsksWord_97 lX12_344 kX12_asks vX12_asks sh82 (by decide) rfl (Nat.le_of_ble_eq_true rfl) vc ?_
    intro h5 vc
    obtain ⟨hR5, vc⟩ := vc
    replace hR := hR5.trans hR
    refine go_goto 144 dX12_qAsksWord_100 rfl ?_
    exact go_vret dX12_qAsksWord_144 rfl vc rfl (Nat.le_refl _) (Nat.le_refl _)
  by_cases q5 : a1 = 5
  · refine go_tableIn (off := 102) 103 dX12_qAsksWord_1 (by rw [q5]; decide) (by rw [q5]; decide) (by rw [q5]; rfl) rfl ?_
    replace vc := vc.2.2.2.2.2.1 q5
    refine go_aload_n (x := 82) dX12_qAsksWord_103 rfl ?_
    refine go_aload_n (x := 82) dX12_qAsksWord_104 rfl ?_
    refine go_getR (x := 160) dX12_qAsksWord_105 f12_251 sh82 (fun _ _ => rfl) (rf82_101 hR) ?_
    refine gvV1 MX12_asks dX12_qAsksWord_108 lX12_344 kX12_asks vX12_asks sh82 (by decide) rfl (Nat.le_of_ble_eq_true rfl) vc ?_
    intro h6 vc
    obtain ⟨hR6, vc⟩ := vc
    replace hR := hR6.trans hR
    refine go_goto 144 dX12_qAsksWord_111 rfl ?_
    exact go_vret dX12_qAsksWord_144 rfl vc rfl (Nat.le_refl _) (Nat.le_refl _)
  by_cases q6 : a1 = 6
  · refine go_tableIn (off := 113) 114 dX12_qAsksWord_1 (by rw [q6]; decide) (by rw [q6]; decide) (by rw [q6]; rfl) rfl ?_
    replace vc := vc.2.2.2.2.2.2.1 q6
    refine go_aload_n (x := 82) dX12_qAsksWord_114 rfl ?_
    refine go_aload_n (x := 82) dX12_qAsksWord_115 rfl ?_
    refine go_getR (x := 161) dX12_qAsksWord_116 f12_254 sh82 (fun _ _ => rfl) (rf82_102 hR) ?_
    refine gvV1 MX12_asks dX12_qAsksWord_119 lX12_344 kX12_asks vX12_asks sh82 (by decide) rfl (Nat.le_of_ble_eq_true rfl) vc ?_
    intro h7 vc
    obtain ⟨hR7, vc⟩ := vc
    replace hR := hR7.trans hR
    refine go_goto 144 dX12_qAsksWord_122 rfl ?_
    exact go_vret dX12_qAsksWord_144 rfl vc rfl (Nat.le_refl _) (Nat.le_refl _)
  by_cases q7 : a1 = 7
  · refine go_tableIn (off := 124) 125 dX12_qAsksWord_1 (by rw [q7]; decide) (by rw [q7]; decide) (by rw [q7]; rfl) rfl ?_
    replace vc := vc.2.2.2.2.2.2.2.1 q7
    refine go_aload_n (x := 82) dX12_qAsksWord_125 rfl ?_
    refine go_aload_n (x := 82) dX12_qAsksWord_126 rfl ?_
    refine go_getR (x := 162) dX12_qAsksWord_127 f12_257 sh82 (fun _ _ => rfl) (rf82_103 hR) ?_
    refine gvV1 MX12_asks dX12_qAsksWord_130 lX12_344 kX12_asks vX12_asks sh82 (by decide) rfl (Nat.le_of_ble_eq_true rfl) vc ?_
    intro h8 vc
    obtain ⟨hR8, vc⟩ := vc
    replace hR := hR8.trans hR
    refine go_goto 144 dX12_qAsksWord_133 rfl ?_
    exact go_vret dX12_qAsksWord_144 rfl vc rfl (Nat.le_refl _) (Nat.le_refl _)
  replace vc := vc.2.2.2.2.2.2.2.2 q0 q1 q2 q3 q4 q5 q6 q7
  refine go_tableOut 136 dX12_qAsksWord_1 ?_ rfl ?_
  · have e0 : ¬ (a1).toInt = 0 := lv_neT q0 rfl; have e1 : ¬ (a1).toInt = 1 := lv_neT q1 rfl; have e2 : ¬ (a1).toInt = 2 := lv_neT q2 rfl; have e3 : ¬ (a1).toInt = 3 := lv_neT q3 rfl; have e4 : ¬ (a1).toInt = 4 := lv_neT q4 rfl; have e5 : ¬ (a1).toInt = 5 := lv_neT q5 rfl; have e6 : ¬ (a1).toInt = 6 := lv_neT q6 rfl; have e7 : ¬ (a1).toInt = 7 := lv_neT q7 rfl
    omega
  refine go_aload_n (x := 82) dX12_qAsksWord_136 rfl ?_
  refine go_aload_n (x := 82) dX12_qAsksWord_137 rfl ?_
  refine go_getR (x := 163) dX12_qAsksWord_138 f12_260 sh82 (fun _ _ => rfl) (rf82_104 hR) ?_
  refine gvV1 MX12_asks dX12_qAsksWord_141 lX12_344 kX12_asks vX12_asks sh82 (by decide) rfl (Nat.le_of_ble_eq_true rfl) vc ?_
  intro h9 vc
  obtain ⟨hR9, vc⟩ := vc
  replace hR := hR9.trans hR
  exact go_vret dX12_qAsksWord_144 rfl vc rfl (Nat.le_refl _) (Nat.le_refl _)
set_option maxRecDepth 20000 in
theorem wX12_qEndsPart_0 {p : Program} {l : Launch} {e : Env} {s : State} {m : MethodId} {args : Array Value} {below : List Frame} {meth : Method} {c : Code} {G : gG} {d : Nat} {Q : Option Value → gH → Prop} {h : gH} {lk sp : Nat} {cd : Option Nat}  (hR : h.2.2 = gRF lk sp cd) (hlk : lk = 30 ∨ lk = 67) (hsp : sp = 30 ∨ sp = 67)  (vc : ((¬ (h.1 82 5) = 0 → Q none h) ∧ ((h.1 82 5) = 0 → (((h.1 82 108) ≤ (h.1 82 110) → Q none h) ∧ (¬ (h.1 82 108) ≤ (h.1 82 110) → (vp_in (((h.1 82 108) - 1)) 1700 ∧ (((h.1 165 (((h.1 82 108) - 1) : Int32).toNatClampNeg) < 60 → Q none h) ∧ (¬ (h.1 165 (((h.1 82 108) - 1) : Int32).toNatClampNeg) < 60 → gC l G d MX12_qDrops [.ref 82] (sI h 82 109 ((h.1 82 109) - 1)) (rV fun h1 => h1.2.2 = ((sI h 82 109 ((h.1 82 109) - 1))).2.2 ∧ gg p l e s m args below meth c G (d + 1) MX12_qEndsPart Q 0 [some (.ref 82)] [] h1))))))))) : gg p l e s m args below meth c G (d + 1) MX12_qEndsPart Q 0 [some (.ref 82)] [] h := by
  refine go_aload_n (x := 82) dX12_qEndsPart_0 rfl ?_
  refine go_getI' (v := (h.1 82 5)) dX12_qEndsPart_1 f12_278 sh82 (fun _ _ => rfl) rfl ?_
  refine go_if_ne 51 dX12_qEndsPart_4 rfl (fun q => ?_) (fun q => ?_)
  · replace vc := vc.1 q
    exact go_vret dX12_qEndsPart_51 rfl vc rfl (Nat.le_refl _) (Nat.le_refl _)
  · replace vc := vc.2 q
    refine go_aload_n (x := 82) dX12_qEndsPart_7 rfl ?_
    refine go_getI' (v := (h.1 82 108)) dX12_qEndsPart_8 f12_686 sh82 (fun _ _ => rfl) rfl ?_
    refine go_aload_n (x := 82) dX12_qEndsPart_11 rfl ?_
    refine go_getI' (v := (h.1 82 110)) dX12_qEndsPart_12 f12_692 sh82 (fun _ _ => rfl) rfl ?_
    refine go_icmp_le 51 dX12_qEndsPart_15 rfl (fun q => ?_) (fun q => ?_)
    · replace vc := vc.1 q
      exact go_vret dX12_qEndsPart_51 rfl vc rfl (Nat.le_refl _) (Nat.le_refl _)
    · replace vc := vc.2 q
      refine go_aload_n (x := 82) dX12_qEndsPart_18 rfl ?_
      refine go_getR (x := 165) dX12_qEndsPart_19 f12_266 sh82 (fun _ _ => rfl) (rf82_107 hR) ?_
      refine go_aload_n (x := 82) dX12_qEndsPart_22 rfl ?_
      refine go_getI' (v := (h.1 82 108)) dX12_qEndsPart_23 f12_686 sh82 (fun _ _ => rfl) rfl ?_
      refine go_iconst (v := 1) dX12_qEndsPart_26 rfl ?_
      refine go_isub dX12_qEndsPart_27 ?_
      refine go_iald' (v := (h.1 165 (((h.1 82 108) - 1) : Int32).toNatClampNeg)) dX12_qEndsPart_28 sh165 vc.1 rfl ?_
      have vc := vc.2
      refine go_bipush (v := 60) dX12_qEndsPart_29 rfl ?_
      refine go_icmp_lt 51 dX12_qEndsPart_31 rfl (fun q => ?_) (fun q => ?_)
      · replace vc := vc.1 q
        exact go_vret dX12_qEndsPart_51 rfl vc rfl (Nat.le_refl _) (Nat.le_refl _)
      · replace vc := vc.2 q
        refine go_aload_n (x := 82) dX12_qEndsPart_34 rfl ?_
        refine go_dup dX12_qEndsPart_35 rfl ?_
        refine go_getI' (v := (h.1 82 109)) dX12_qEndsPart_36 f12_683 sh82 (fun _ _ => rfl) rfl ?_
        refine go_iconst (v := 1) dX12_qEndsPart_39 rfl ?_
        refine go_isub dX12_qEndsPart_40 ?_
        refine go_putI dX12_qEndsPart_41 f12_683 sh82 rfl rfl ?_
        refine go_aload_n (x := 82) dX12_qEndsPart_44 rfl ?_
        refine gvV0 MX12_qDrops dX12_qEndsPart_45 lX12_698 kX12_qDrops vX12_qDrops sh82 (by decide) rfl (Nat.le_of_ble_eq_true rfl) vc ?_
        intro h1 vc
        obtain ⟨hR1, vc⟩ := vc
        replace hR := hR1.trans hR
        refine go_goto 0 dX12_qEndsPart_48 rfl ?_
        exact vc
set_option maxRecDepth 20000 in
theorem wX12_qPartTold_0 {p : Program} {l : Launch} {e : Env} {s : State} {m : MethodId} {args : Array Value} {below : List Frame} {meth : Method} {c : Code} {G : gG} {d : Nat} {Q : Option Value → gH → Prop} {h : gH} {lk sp : Nat} {cd : Option Nat}  (hR : h.2.2 = gRF lk sp cd) (hlk : lk = 30 ∨ lk = 67) (hsp : sp = 30 ∨ sp = 67)  (vc : gg p l e s m args below meth c G (d + 1) MX12_qPartTold Q 2 [some (.ref 82), some (.int 1), none, none, none, none] [] h) : gg p l e s m args below meth c G (d + 1) MX12_qPartTold Q 0 [some (.ref 82), none, none, none, none, none] [] h := by
  refine go_iconst (v := 1) dX12_qPartTold_0 rfl ?_
  refine go_istore_n dX12_qPartTold_1 (Nat.le_of_ble_eq_true rfl) ?_
  show gg p l e s m args below meth c G (d + 1) MX12_qPartTold Q 2 [some (.ref 82), some (.int 1), none, none, none, none] [] h
  exact vc
set_option maxRecDepth 20000 in
theorem wX12_qPartTold_2 {p : Program} {l : Launch} {e : Env} {s : State} {m : MethodId} {args : Array Value} {below : List Frame} {meth : Method} {c : Code} {G : gG} {d : Nat} {Q : Option Value → gH → Prop} {h : gH} {lk sp : Nat} {cd : Option Nat} {x1 : Int32} (hR : h.2.2 = gRF lk sp cd) (hlk : lk = 30 ∨ lk = 67) (hsp : sp = 30 ∨ sp = 67)  (vc : ((x1 = 0 → gg p l e s m args below meth c G (d + 1) MX12_qPartTold Q 186 [some (.ref 82), some (.int x1), none, none, none, none] [] h) ∧ (¬ x1 = 0 → ((¬ (h.1 82 5) = 0 → gg p l e s m args below meth c G (d + 1) MX12_qPartTold Q 186 [some (.ref 82), some (.int x1), none, none, none, none] [] h) ∧ ((h.1 82 5) = 0 → gC l G d MX12_look [.ref 82] h (rI fun v1 h1 => h1.2.2 = (h).2.2 ∧ gC l G d MX12_qWordOf [.ref 82, .int 8, .int 9] h1 (rI fun v2 h2 => h2.2.2 = (h1).2.2 ∧ ((¬ v1 = 40 → gC l G d MX12_isHere [.ref 82, .ref 153] h2 (rI fun v3 h3 => h3.2.2 = (h2).2.2 ∧ ((¬ v3 = 0 → gg p l e s m args below meth c G (d + 1) MX12_qPartTold Q 78 [some (.ref 82), some (.int x1), some (.int v1), some (.int v2), none, none] [] h3) ∧ (v3 = 0 → gC l G d MX12_isHere [.ref 82, .ref 154] h3 (rI fun v4 h4 => h4.2.2 = (h3).2.2 ∧ ((v4 = 0 → ((v2 = (-1) → gg p l e s m args below meth c G (d + 1) MX12_qPartTold Q 183 [some (.ref 82), some (.int 0), some (.int v1), some (.int v2), none, none] [] h4) ∧ (¬ v2 = (-1) → gC l G d MX12_qOpens [.ref 82, .int ((60 + v2) - 8), .int (h4.1 82 2)] h4 (rV fun h5 => h5.2.2 = (h4).2.2 ∧ gC l G d MX12_qAsksWord [.ref 82, .int v2] h5 (rV fun h6 => h6.2.2 = (h5).2.2 ∧ gg p l e s m args below meth c G (d + 1) MX12_qPartTold Q 183 [some (.ref 82), some (.int x1), some (.int v1), some (.int v2), none, none] [] h6))))) ∧ (¬ v4 = 0 → gg p l e s m args below meth c G (d + 1) MX12_qPartTold Q 78 [some (.ref 82), some (.int x1), some (.int v1), some (.int v2), none, none] [] h4))))))) ∧ (v1 = 40 → gC l G d MX12_qOpens [.ref 82, .int 20, .int (h2.1 82 2)] h2 (rV fun h7 => h7.2.2 = (h2).2.2 ∧ gg p l e s m args below meth c G (d + 1) MX12_qPartTold Q 183 [some (.ref 82), some (.int x1), some (.int v1), some (.int v2), none, none] [] (sI h7 82 2 ((h7.1 82 2) + 1)))))))))))) : gg p l e s m args below meth c G (d + 1) MX12_qPartTold Q 2 [some (.ref 82), some (.int x1), none, none, none, none] [] h := by
  refine go_iload_n (x := x1) dX12_qPartTold_2 rfl ?_
  refine go_if_eq 186 dX12_qPartTold_3 rfl (fun q => ?_) (fun q => ?_)
  · replace vc := vc.1 q
    exact vc
  · replace vc := vc.2 q
    refine go_aload_n (x := 82) dX12_qPartTold_6 rfl ?_
    refine go_getI' (v := (h.1 82 5)) dX12_qPartTold_7 f12_278 sh82 (fun _ _ => rfl) rfl ?_
    refine go_if_ne 186 dX12_qPartTold_10 rfl (fun q => ?_) (fun q => ?_)
    · replace vc := vc.1 q
      exact vc
    · replace vc := vc.2 q
      refine go_aload_n (x := 82) dX12_qPartTold_13 rfl ?_
      refine gvI0 MX12_look dX12_qPartTold_14 lX12_290 kX12_look vX12_look sh82 (by decide) rfl (Nat.le_of_ble_eq_true rfl) vc ?_
      intro v1 h1 vc
      obtain ⟨hR1, vc⟩ := vc
      replace hR := hR1.trans hR
      refine go_istore_n dX12_qPartTold_17 (Nat.le_of_ble_eq_true rfl) ?_
      show gg p l e s m args below meth c G (d + 1) MX12_qPartTold Q 18 [some (.ref 82), some (.int x1), some (.int v1), none, none, none] [] h1
      refine go_aload_n (x := 82) dX12_qPartTold_18 rfl ?_
      refine go_bipush (v := 8) dX12_qPartTold_19 rfl ?_
      refine go_bipush (v := 9) dX12_qPartTold_21 rfl ?_
      refine gvI2 MX12_qWordOf dX12_qPartTold_23 lX12_704 kX12_qWordOf vX12_qWordOf sh82 (by decide) rfl (Nat.le_of_ble_eq_true rfl) vc ?_
      intro v2 h2 vc
      obtain ⟨hR2, vc⟩ := vc
      replace hR := hR2.trans hR
      refine go_istore_n dX12_qPartTold_26 (Nat.le_of_ble_eq_true rfl) ?_
      show gg p l e s m args below meth c G (d + 1) MX12_qPartTold Q 27 [some (.ref 82), some (.int x1), some (.int v1), some (.int v2), none, none] [] h2
      refine go_iload_n (x := v1) dX12_qPartTold_27 rfl ?_
      refine go_bipush (v := 40) dX12_qPartTold_28 rfl ?_
      refine go_icmp_ne 56 dX12_qPartTold_30 rfl (fun q => ?_) (fun q => ?_)
      · replace vc := vc.1 q
        refine go_aload_n (x := 82) dX12_qPartTold_56 rfl ?_
        refine go_aload_n (x := 82) dX12_qPartTold_57 rfl ?_
        refine go_getR (x := 153) dX12_qPartTold_58 f12_230 sh82 (fun _ _ => rfl) (rf82_94 hR) ?_
        refine gvI1 MX12_isHere dX12_qPartTold_61 lX12_301 kX12_isHere vX12_isHere sh82 (by decide) rfl (Nat.le_of_ble_eq_true rfl) vc ?_
        intro v3 h3 vc
        obtain ⟨hR3, vc⟩ := vc
        replace hR := hR3.trans hR
        refine go_if_ne 78 dX12_qPartTold_64 rfl (fun q => ?_) (fun q => ?_)
        · replace vc := vc.1 q
          exact vc
        · replace vc := vc.2 q
          refine go_aload_n (x := 82) dX12_qPartTold_67 rfl ?_
          refine go_aload_n (x := 82) dX12_qPartTold_68 rfl ?_
          refine go_getR (x := 154) dX12_qPartTold_69 f12_233 sh82 (fun _ _ => rfl) (rf82_95 hR) ?_
          refine gvI1 MX12_isHere dX12_qPartTold_72 lX12_301 kX12_isHere vX12_isHere sh82 (by decide) rfl (Nat.le_of_ble_eq_true rfl) vc ?_
          intro v4 h4 vc
          obtain ⟨hR4, vc⟩ := vc
          replace hR := hR4.trans hR
          refine go_if_eq 153 dX12_qPartTold_75 rfl (fun q => ?_) (fun q => ?_)
          · replace vc := vc.1 q
            refine go_iload_n (x := v2) dX12_qPartTold_153 rfl ?_
            refine go_iconst (v := (-1)) dX12_qPartTold_154 rfl ?_
            refine go_icmp_eq 181 dX12_qPartTold_155 rfl (fun q => ?_) (fun q => ?_)
            · replace vc := vc.1 q
              refine go_iconst (v := 0) dX12_qPartTold_181 rfl ?_
              refine go_istore_n dX12_qPartTold_182 (Nat.le_of_ble_eq_true rfl) ?_
              show gg p l e s m args below meth c G (d + 1) MX12_qPartTold Q 183 [some (.ref 82), some (.int 0), some (.int v1), some (.int v2), none, none] [] h4
              exact vc
            · replace vc := vc.2 q
              refine go_aload_n (x := 82) dX12_qPartTold_158 rfl ?_
              refine go_bipush (v := 60) dX12_qPartTold_159 rfl ?_
              refine go_iload_n (x := v2) dX12_qPartTold_161 rfl ?_
              refine go_iadd dX12_qPartTold_162 ?_
              refine go_bipush (v := 8) dX12_qPartTold_163 rfl ?_
              refine go_isub dX12_qPartTold_165 ?_
              refine go_aload_n (x := 82) dX12_qPartTold_166 rfl ?_
              refine go_getI' (v := (h4.1 82 2)) dX12_qPartTold_167 f12_284 sh82 (fun _ _ => rfl) rfl ?_
              refine gvV2 MX12_qOpens dX12_qPartTold_170 lX12_707 kX12_qOpens vX12_qOpens sh82 (by decide) rfl (Nat.le_of_ble_eq_true rfl) vc ?_
              intro h5 vc
              obtain ⟨hR5, vc⟩ := vc
              replace hR := hR5.trans hR
              refine go_aload_n (x := 82) dX12_qPartTold_173 rfl ?_
              refine go_iload_n (x := v2) dX12_qPartTold_174 rfl ?_
              refine gvV1 MX12_qAsksWord dX12_qPartTold_175 lX12_710 kX12_qAsksWord vX12_qAsksWord sh82 (by decide) rfl (Nat.le_of_ble_eq_true rfl) vc ?_
              intro h6 vc
              obtain ⟨hR6, vc⟩ := vc
              replace hR := hR6.trans hR
              refine go_goto 183 dX12_qPartTold_178 rfl ?_
              exact vc
          · replace vc := vc.2 q
            exact vc
      · replace vc := vc.2 q
        refine go_aload_n (x := 82) dX12_qPartTold_33 rfl ?_
        refine go_bipush (v := 20) dX12_qPartTold_34 rfl ?_
        refine go_aload_n (x := 82) dX12_qPartTold_36 rfl ?_
        refine go_getI' (v := (h2.1 82 2)) dX12_qPartTold_37 f12_284 sh82 (fun _ _ => rfl) rfl ?_
        refine gvV2 MX12_qOpens dX12_qPartTold_40 lX12_707 kX12_qOpens vX12_qOpens sh82 (by decide) rfl (Nat.le_of_ble_eq_true rfl) vc ?_
        intro h7 vc
        obtain ⟨hR7, vc⟩ := vc
        replace hR := hR7.trans hR
        refine go_aload_n (x := 82) dX12_qPartTold_43 rfl ?_
        refine go_dup dX12_qPartTold_44 rfl ?_
        refine go_getI' (v := (h7.1 82 2)) dX12_qPartTold_45 f12_284 sh82 (fun _ _ => rfl) rfl ?_
        refine go_iconst (v := 1) dX12_qPartTold_48 rfl ?_
        refine go_iadd dX12_qPartTold_49 ?_
        refine go_putI dX12_qPartTold_50 f12_284 sh82 rfl rfl ?_
        refine go_goto 183 dX12_qPartTold_53 rfl ?_
        exact vc
set_option maxRecDepth 20000 in
theorem wX12_qPartTold_78 {p : Program} {l : Launch} {e : Env} {s : State} {m : MethodId} {args : Array Value} {below : List Frame} {meth : Method} {c : Code} {G : gG} {d : Nat} {Q : Option Value → gH → Prop} {h : gH} {lk sp : Nat} {cd : Option Nat} {x1 : Int32} {x2 : Int32} {x3 : Int32} (hR : h.2.2 = gRF lk sp cd) (hlk : lk = 30 ∨ lk = 67) (hsp : sp = 30 ∨ sp = 67)  (vc : gC l G d MX12_takes [.ref 82, .ref 153] h (rI fun v1 h1 => h1.2.2 = (h).2.2 ∧ ((¬ v1 = 0 → gg p l e s m args below meth c G (d + 1) MX12_qPartTold Q 101 [some (.ref 82), some (.int x1), some (.int x2), some (.int x3), some (.int v1), none] [] h1) ∧ (v1 = 0 → gC l G d MX12_asks [.ref 82, .ref 154] h1 (rV fun h2 => h2.2.2 = (h1).2.2 ∧ gg p l e s m args below meth c G (d + 1) MX12_qPartTold Q 101 [some (.ref 82), some (.int x1), some (.int x2), some (.int x3), some (.int v1), none] [] h2))))) : gg p l e s m args below meth c G (d + 1) MX12_qPartTold Q 78 [some (.ref 82), some (.int x1), some (.int x2), some (.int x3), none, none] [] h := by
  refine go_aload_n (x := 82) dX12_qPartTold_78 rfl ?_
  refine go_aload_n (x := 82) dX12_qPartTold_79 rfl ?_
  refine go_getR (x := 153) dX12_qPartTold_80 f12_230 sh82 (fun _ _ => rfl) (rf82_94 hR) ?_
  refine gvI1 MX12_takes dX12_qPartTold_83 lX12_305 kX12_takes vX12_takes sh82 (by decide) rfl (Nat.le_of_ble_eq_true rfl) vc ?_
  intro v1 h1 vc
  obtain ⟨hR1, vc⟩ := vc
  replace hR := hR1.trans hR
  refine go_istore dX12_qPartTold_86 (Nat.le_of_ble_eq_true rfl) ?_
  show gg p l e s m args below meth c G (d + 1) MX12_qPartTold Q 88 [some (.ref 82), some (.int x1), some (.int x2), some (.int x3), some (.int v1), none] [] h1
  refine go_iload (x := v1) dX12_qPartTold_88 rfl ?_
  refine go_if_ne 101 dX12_qPartTold_90 rfl (fun q => ?_) (fun q => ?_)
  · replace vc := vc.1 q
    exact vc
  · replace vc := vc.2 q
    refine go_aload_n (x := 82) dX12_qPartTold_93 rfl ?_
    refine go_aload_n (x := 82) dX12_qPartTold_94 rfl ?_
    refine go_getR (x := 154) dX12_qPartTold_95 f12_233 sh82 (fun _ _ => rfl) (rf82_95 hR) ?_
    refine gvV1 MX12_asks dX12_qPartTold_98 lX12_344 kX12_asks vX12_asks sh82 (by decide) rfl (Nat.le_of_ble_eq_true rfl) vc ?_
    intro h2 vc
    obtain ⟨hR2, vc⟩ := vc
    replace hR := hR2.trans hR
    exact vc
set_option maxRecDepth 20000 in
theorem wX12_qPartTold_101 {p : Program} {l : Launch} {e : Env} {s : State} {m : MethodId} {args : Array Value} {below : List Frame} {meth : Method} {c : Code} {G : gG} {d : Nat} {Q : Option Value → gH → Prop} {h : gH} {lk sp : Nat} {cd : Option Nat} {x1 : Int32} {x2 : Int32} {x3 : Int32} {x4 : Int32} (hR : h.2.2 = gRF lk sp cd) (hlk : lk = 30 ∨ lk = 67) (hsp : sp = 30 ∨ sp = 67)  (vc : gC l G d MX12_look [.ref 82] h (rI fun v1 h1 => h1.2.2 = (h).2.2 ∧ ((¬ v1 = 40 → gg p l e s m args below meth c G (d + 1) MX12_qPartTold Q 144 [some (.ref 82), some (.int x1), some (.int x2), some (.int x3), some (.int x4), some (.int (-1))] [] h1) ∧ (v1 = 40 → (((h1.1 82 2) = (-1) → gg p l e s m args below meth c G (d + 1) MX12_qPartTold Q 144 [some (.ref 82), some (.int x1), some (.int x2), some (.int x3), some (.int x4), some (.int (h1.1 82 2))] [] h1) ∧ (¬ (h1.1 82 2) = (-1) → ((x4 = 0 → gC l G d MX12_qOpens [.ref 82, .int 22, .int (h1.1 82 2)] h1 (rV fun h2 => h2.2.2 = (h1).2.2 ∧ gg p l e s m args below meth c G (d + 1) MX12_qPartTold Q 144 [some (.ref 82), some (.int x1), some (.int x2), some (.int x3), some (.int x4), some (.int (h1.1 82 2))] [] h2)) ∧ (¬ x4 = 0 → gC l G d MX12_qOpens [.ref 82, .int 21, .int (h1.1 82 2)] h1 (rV fun h3 => h3.2.2 = (h1).2.2 ∧ gg p l e s m args below meth c G (d + 1) MX12_qPartTold Q 144 [some (.ref 82), some (.int x1), some (.int x2), some (.int x3), some (.int x4), some (.int (h1.1 82 2))] [] h3))))))))) : gg p l e s m args below meth c G (d + 1) MX12_qPartTold Q 101 [some (.ref 82), some (.int x1), some (.int x2), some (.int x3), some (.int x4), none] [] h := by
  refine go_aload_n (x := 82) dX12_qPartTold_101 rfl ?_
  refine gvI0 MX12_look dX12_qPartTold_102 lX12_290 kX12_look vX12_look sh82 (by decide) rfl (Nat.le_of_ble_eq_true rfl) vc ?_
  intro v1 h1 vc
  obtain ⟨hR1, vc⟩ := vc
  replace hR := hR1.trans hR
  refine go_bipush (v := 40) dX12_qPartTold_105 rfl ?_
  refine go_icmp_ne 117 dX12_qPartTold_107 rfl (fun q => ?_) (fun q => ?_)
  · replace vc := vc.1 q
    refine go_iconst (v := (-1)) dX12_qPartTold_117 rfl ?_
    refine go_istore dX12_qPartTold_118 (Nat.le_of_ble_eq_true rfl) ?_
    show gg p l e s m args below meth c G (d + 1) MX12_qPartTold Q 120 [some (.ref 82), some (.int x1), some (.int x2), some (.int x3), some (.int x4), some (.int (-1))] [] h1
    refine go_iload (x := (-1)) dX12_qPartTold_120 rfl ?_
    refine go_iconst (v := (-1)) dX12_qPartTold_122 rfl ?_
    refine go_icmp_eq 144 dX12_qPartTold_123 rfl (fun q => ?_) (fun q => absurd q (by decide))
    exact vc
  · replace vc := vc.2 q
    refine go_aload_n (x := 82) dX12_qPartTold_110 rfl ?_
    refine go_getI' (v := (h1.1 82 2)) dX12_qPartTold_111 f12_284 sh82 (fun _ _ => rfl) rfl ?_
    refine go_goto 118 dX12_qPartTold_114 rfl ?_
    refine go_istore dX12_qPartTold_118 (Nat.le_of_ble_eq_true rfl) ?_
    show gg p l e s m args below meth c G (d + 1) MX12_qPartTold Q 120 [some (.ref 82), some (.int x1), some (.int x2), some (.int x3), some (.int x4), some (.int (h1.1 82 2))] [] h1
    refine go_iload (x := (h1.1 82 2)) dX12_qPartTold_120 rfl ?_
    refine go_iconst (v := (-1)) dX12_qPartTold_122 rfl ?_
    refine go_icmp_eq 144 dX12_qPartTold_123 rfl (fun q => ?_) (fun q => ?_)
    · replace vc := vc.1 q
      exact vc
    · replace vc := vc.2 q
      refine go_aload_n (x := 82) dX12_qPartTold_126 rfl ?_
      refine go_iload (x := x4) dX12_qPartTold_127 rfl ?_
      refine go_if_eq 137 dX12_qPartTold_129 rfl (fun q => ?_) (fun q => ?_)
      · replace vc := vc.1 q
        refine go_bipush (v := 22) dX12_qPartTold_137 rfl ?_
        refine go_iload (x := (h1.1 82 2)) dX12_qPartTold_139 rfl ?_
        refine gvV2 MX12_qOpens dX12_qPartTold_141 lX12_707 kX12_qOpens vX12_qOpens sh82 (by decide) rfl (Nat.le_of_ble_eq_true rfl) vc ?_
        intro h2 vc
        obtain ⟨hR2, vc⟩ := vc
        replace hR := hR2.trans hR
        exact vc
      · replace vc := vc.2 q
        refine go_bipush (v := 21) dX12_qPartTold_132 rfl ?_
        refine go_goto 139 dX12_qPartTold_134 rfl ?_
        refine go_iload (x := (h1.1 82 2)) dX12_qPartTold_139 rfl ?_
        refine gvV2 MX12_qOpens dX12_qPartTold_141 lX12_707 kX12_qOpens vX12_qOpens sh82 (by decide) rfl (Nat.le_of_ble_eq_true rfl) vc ?_
        intro h3 vc
        obtain ⟨hR3, vc⟩ := vc
        replace hR := hR3.trans hR
        exact vc
set_option maxRecDepth 20000 in
theorem wX12_qPartTold_144 {p : Program} {l : Launch} {e : Env} {s : State} {m : MethodId} {args : Array Value} {below : List Frame} {meth : Method} {c : Code} {G : gG} {d : Nat} {Q : Option Value → gH → Prop} {h : gH} {lk sp : Nat} {cd : Option Nat} {x1 : Int32} {x2 : Int32} {x3 : Int32} {x4 : Int32} {x5 : Int32} (hR : h.2.2 = gRF lk sp cd) (hlk : lk = 30 ∨ lk = 67) (hsp : sp = 30 ∨ sp = 67)  (vc : gC l G d MX12_asksSign [.ref 82, .int 40] h (rV fun h1 => h1.2.2 = (h).2.2 ∧ gg p l e s m args below meth c G (d + 1) MX12_qPartTold Q 183 [some (.ref 82), some (.int x1), some (.int x2), some (.int x3), none, none] [] h1)) : gg p l e s m args below meth c G (d + 1) MX12_qPartTold Q 144 [some (.ref 82), some (.int x1), some (.int x2), some (.int x3), some (.int x4), some (.int x5)] [] h := by
  refine go_aload_n (x := 82) dX12_qPartTold_144 rfl ?_
  refine go_bipush (v := 40) dX12_qPartTold_145 rfl ?_
  refine gvV1 MX12_asksSign dX12_qPartTold_147 lX12_352 kX12_asksSign vX12_asksSign sh82 (by decide) rfl (Nat.le_of_ble_eq_true rfl) vc ?_
  intro h1 vc
  obtain ⟨hR1, vc⟩ := vc
  replace hR := hR1.trans hR
  refine go_goto 183 dX12_qPartTold_150 rfl ?_
  refine go_weak (ls' := [some (.ref 82), some (.int x1), some (.int x2), some (.int x3), none, none]) ?_ vc
  exact (⟨rfl, ⟨rfl, ⟨rfl, ⟨rfl, trivial⟩⟩⟩⟩)
set_option maxRecDepth 20000 in
theorem wX12_qPartTold_183 {p : Program} {l : Launch} {e : Env} {s : State} {m : MethodId} {args : Array Value} {below : List Frame} {meth : Method} {c : Code} {G : gG} {d : Nat} {Q : Option Value → gH → Prop} {h : gH} {lk sp : Nat} {cd : Option Nat} {x1 : Int32} {x2 : Int32} {x3 : Int32} (hR : h.2.2 = gRF lk sp cd) (hlk : lk = 30 ∨ lk = 67) (hsp : sp = 30 ∨ sp = 67)  (vc : gg p l e s m args below meth c G (d + 1) MX12_qPartTold Q 2 [some (.ref 82), some (.int x1), none, none, none, none] [] h) : gg p l e s m args below meth c G (d + 1) MX12_qPartTold Q 183 [some (.ref 82), some (.int x1), some (.int x2), some (.int x3), none, none] [] h := by
  refine go_goto 2 dX12_qPartTold_183 rfl ?_
  refine go_weak (ls' := [some (.ref 82), some (.int x1), none, none, none, none]) ?_ vc
  exact (⟨rfl, ⟨rfl, trivial⟩⟩)
set_option maxRecDepth 20000 in
theorem wX12_qPartTold_186 {p : Program} {l : Launch} {e : Env} {s : State} {m : MethodId} {args : Array Value} {below : List Frame} {meth : Method} {c : Code} {G : gG} {d : Nat} {Q : Option Value → gH → Prop} {h : gH} {lk sp : Nat} {cd : Option Nat} {x1 : Int32} (hR : h.2.2 = gRF lk sp cd) (hlk : lk = 30 ∨ lk = 67) (hsp : sp = 30 ∨ sp = 67)  (vc : (((h.1 82 5) = 0 → gC l G d MX12_qWordOf [.ref 82, .int 0, .int 8] h (rI fun v1 h1 => h1.2.2 = (h).2.2 ∧ ((v1 = (-1) → gg p l e s m args below meth c G (d + 1) MX12_qPartTold Q 212 [some (.ref 82), some (.int x1), some (.int v1), none, none, none] [] h1) ∧ (¬ v1 = (-1) → gC l G d MX12_qAsksWord [.ref 82, .int v1] h1 (rV fun h2 => h2.2.2 = (h1).2.2 ∧ gg p l e s m args below meth c G (d + 1) MX12_qPartTold Q 212 [some (.ref 82), some (.int x1), some (.int v1), none, none, none] [] h2))))) ∧ (¬ (h.1 82 5) = 0 → Q none h))) : gg p l e s m args below meth c G (d + 1) MX12_qPartTold Q 186 [some (.ref 82), some (.int x1), none, none, none, none] [] h := by
  refine go_aload_n (x := 82) dX12_qPartTold_186 rfl ?_
  refine go_getI' (v := (h.1 82 5)) dX12_qPartTold_187 f12_278 sh82 (fun _ _ => rfl) rfl ?_
  refine go_if_eq 194 dX12_qPartTold_190 rfl (fun q => ?_) (fun q => ?_)
  · replace vc := vc.1 q
    refine go_aload_n (x := 82) dX12_qPartTold_194 rfl ?_
    refine go_iconst (v := 0) dX12_qPartTold_195 rfl ?_
    refine go_bipush (v := 8) dX12_qPartTold_196 rfl ?_
    refine gvI2 MX12_qWordOf dX12_qPartTold_198 lX12_704 kX12_qWordOf vX12_qWordOf sh82 (by decide) rfl (Nat.le_of_ble_eq_true rfl) vc ?_
    intro v1 h1 vc
    obtain ⟨hR1, vc⟩ := vc
    replace hR := hR1.trans hR
    refine go_istore_n dX12_qPartTold_201 (Nat.le_of_ble_eq_true rfl) ?_
    show gg p l e s m args below meth c G (d + 1) MX12_qPartTold Q 202 [some (.ref 82), some (.int x1), some (.int v1), none, none, none] [] h1
    refine go_iload_n (x := v1) dX12_qPartTold_202 rfl ?_
    refine go_iconst (v := (-1)) dX12_qPartTold_203 rfl ?_
    refine go_icmp_eq 212 dX12_qPartTold_204 rfl (fun q => ?_) (fun q => ?_)
    · replace vc := vc.1 q
      exact vc
    · replace vc := vc.2 q
      refine go_aload_n (x := 82) dX12_qPartTold_207 rfl ?_
      refine go_iload_n (x := v1) dX12_qPartTold_208 rfl ?_
      refine gvV1 MX12_qAsksWord dX12_qPartTold_209 lX12_710 kX12_qAsksWord vX12_qAsksWord sh82 (by decide) rfl (Nat.le_of_ble_eq_true rfl) vc ?_
      intro h2 vc
      obtain ⟨hR2, vc⟩ := vc
      replace hR := hR2.trans hR
      exact vc
  · replace vc := vc.2 q
    exact go_vret dX12_qPartTold_193 rfl vc rfl (Nat.le_refl _) (Nat.le_refl _)
set_option maxRecDepth 20000 in
theorem wX12_qPartTold_212 {p : Program} {l : Launch} {e : Env} {s : State} {m : MethodId} {args : Array Value} {below : List Frame} {meth : Method} {c : Code} {G : gG} {d : Nat} {Q : Option Value → gH → Prop} {h : gH} {lk sp : Nat} {cd : Option Nat} {x1 : Int32} {x2 : Int32} (hR : h.2.2 = gRF lk sp cd) (hlk : lk = 30 ∨ lk = 67) (hsp : sp = 30 ∨ sp = 67)  (vc : ((x2 = (-1) → gC l G d MX12_number [.ref 82, .int 0, .int 9999] h (rI fun v1 h1 => h1.2.2 = (h).2.2 ∧ gC l G d MX12_qCode [.ref 82, .int (1000 + v1)] h1 (rV fun h2 => h2.2.2 = (h1).2.2 ∧ gC l G d MX12_qEndsPart [.ref 82] h2 (rV fun h3 => h3.2.2 = (h2).2.2 ∧ Q none h3)))) ∧ (¬ x2 = (-1) → gC l G d MX12_qCode [.ref 82, .int (40 + x2)] h (rV fun h4 => h4.2.2 = (h).2.2 ∧ gC l G d MX12_qEndsPart [.ref 82] h4 (rV fun h5 => h5.2.2 = (h4).2.2 ∧ Q none h5))))) : gg p l e s m args below meth c G (d + 1) MX12_qPartTold Q 212 [some (.ref 82), some (.int x1), some (.int x2), none, none, none] [] h := by
  refine go_aload_n (x := 82) dX12_qPartTold_212 rfl ?_
  refine go_iload_n (x := x2) dX12_qPartTold_213 rfl ?_
  refine go_iconst (v := (-1)) dX12_qPartTold_214 rfl ?_
  refine go_icmp_eq 225 dX12_qPartTold_215 rfl (fun q => ?_) (fun q => ?_)
  · replace vc := vc.1 q
    refine go_sipush (v := 1000) dX12_qPartTold_225 rfl ?_
    refine go_aload_n (x := 82) dX12_qPartTold_228 rfl ?_
    refine go_iconst (v := 0) dX12_qPartTold_229 rfl ?_
    refine go_sipush (v := 9999) dX12_qPartTold_230 rfl ?_
    refine gvI2 MX12_number dX12_qPartTold_233 lX12_348 kX12_number vX12_number sh82 (by decide) rfl (Nat.le_of_ble_eq_true rfl) vc ?_
    intro v1 h1 vc
    obtain ⟨hR1, vc⟩ := vc
    replace hR := hR1.trans hR
    refine go_iadd dX12_qPartTold_236 ?_
    refine gvV1 MX12_qCode dX12_qPartTold_237 lX12_689 kX12_qCode vX12_qCode sh82 (by decide) rfl (Nat.le_of_ble_eq_true rfl) vc ?_
    intro h2 vc
    obtain ⟨hR2, vc⟩ := vc
    replace hR := hR2.trans hR
    refine go_aload_n (x := 82) dX12_qPartTold_240 rfl ?_
    refine gvV0 MX12_qEndsPart dX12_qPartTold_241 lX12_713 kX12_qEndsPart vX12_qEndsPart sh82 (by decide) rfl (Nat.le_of_ble_eq_true rfl) vc ?_
    intro h3 vc
    obtain ⟨hR3, vc⟩ := vc
    replace hR := hR3.trans hR
    exact go_vret dX12_qPartTold_244 rfl vc rfl (Nat.le_refl _) (Nat.le_refl _)
  · replace vc := vc.2 q
    refine go_bipush (v := 40) dX12_qPartTold_218 rfl ?_
    refine go_iload_n (x := x2) dX12_qPartTold_220 rfl ?_
    refine go_iadd dX12_qPartTold_221 ?_
    refine go_goto 237 dX12_qPartTold_222 rfl ?_
    refine gvV1 MX12_qCode dX12_qPartTold_237 lX12_689 kX12_qCode vX12_qCode sh82 (by decide) rfl (Nat.le_of_ble_eq_true rfl) vc ?_
    intro h4 vc
    obtain ⟨hR4, vc⟩ := vc
    replace hR := hR4.trans hR
    refine go_aload_n (x := 82) dX12_qPartTold_240 rfl ?_
    refine gvV0 MX12_qEndsPart dX12_qPartTold_241 lX12_713 kX12_qEndsPart vX12_qEndsPart sh82 (by decide) rfl (Nat.le_of_ble_eq_true rfl) vc ?_
    intro h5 vc
    obtain ⟨hR5, vc⟩ := vc
    replace hR := hR5.trans hR
    exact go_vret dX12_qPartTold_244 rfl vc rfl (Nat.le_refl _) (Nat.le_refl _)
set_option maxRecDepth 20000 in
theorem wX12_qGoesOn_0 {p : Program} {l : Launch} {e : Env} {s : State} {m : MethodId} {args : Array Value} {below : List Frame} {meth : Method} {c : Code} {G : gG} {d : Nat} {Q : Option Value → gH → Prop} {h : gH} {lk sp : Nat} {cd : Option Nat}  (hR : h.2.2 = gRF lk sp cd) (hlk : lk = 30 ∨ lk = 67) (hsp : sp = 30 ∨ sp = 67)  (vc : ((¬ (h.1 82 5) = 0 → gg p l e s m args below meth c G (d + 1) MX12_qGoesOn Q 122 [some (.ref 82), none] [] h) ∧ ((h.1 82 5) = 0 → gC l G d MX12_look [.ref 82] h (rI fun v1 h1 => h1.2.2 = (h).2.2 ∧ ((¬ v1 = 41 → gg p l e s m args below meth c G (d + 1) MX12_qGoesOn Q 122 [some (.ref 82), none] [] h1) ∧ (v1 = 41 → gC l G d MX12_qBracket [.ref 82] h1 (rI fun v2 h2 => h2.2.2 = (h1).2.2 ∧ ((v2 = 20 → gg p l e s m args below meth c G (d + 1) MX12_qGoesOn Q 43 [some (.ref 82), none] [] h2) ∧ (¬ v2 = 20 → gC l G d MX12_qBracket [.ref 82] h2 (rI fun v3 h3 => h3.2.2 = (h2).2.2 ∧ ((v3 = 23 → gg p l e s m args below meth c G (d + 1) MX12_qGoesOn Q 43 [some (.ref 82), none] [] h3) ∧ (¬ v3 = 23 → gC l G d MX12_qBracket [.ref 82] h3 (rI fun v4 h4 => h4.2.2 = (h3).2.2 ∧ ((¬ v4 = 24 → gg p l e s m args below meth c G (d + 1) MX12_qGoesOn Q 122 [some (.ref 82), none] [] h4) ∧ (v4 = 24 → gg p l e s m args below meth c G (d + 1) MX12_qGoesOn Q 43 [some (.ref 82), none] [] h4))))))))))))))) : gg p l e s m args below meth c G (d + 1) MX12_qGoesOn Q 0 [some (.ref 82), none] [] h := by
  refine go_aload_n (x := 82) dX12_qGoesOn_0 rfl ?_
  refine go_getI' (v := (h.1 82 5)) dX12_qGoesOn_1 f12_278 sh82 (fun _ _ => rfl) rfl ?_
  refine go_if_ne 122 dX12_qGoesOn_4 rfl (fun q => ?_) (fun q => ?_)
  · replace vc := vc.1 q
    exact vc
  · replace vc := vc.2 q
    refine go_aload_n (x := 82) dX12_qGoesOn_7 rfl ?_
    refine gvI0 MX12_look dX12_qGoesOn_8 lX12_290 kX12_look vX12_look sh82 (by decide) rfl (Nat.le_of_ble_eq_true rfl) vc ?_
    intro v1 h1 vc
    obtain ⟨hR1, vc⟩ := vc
    replace hR := hR1.trans hR
    refine go_bipush (v := 41) dX12_qGoesOn_11 rfl ?_
    refine go_icmp_ne 122 dX12_qGoesOn_13 rfl (fun q => ?_) (fun q => ?_)
    · replace vc := vc.1 q
      exact vc
    · replace vc := vc.2 q
      refine go_aload_n (x := 82) dX12_qGoesOn_16 rfl ?_
      refine gvI0 MX12_qBracket dX12_qGoesOn_17 lX12_716 kX12_qBracket vX12_qBracket sh82 (by decide) rfl (Nat.le_of_ble_eq_true rfl) vc ?_
      intro v2 h2 vc
      obtain ⟨hR2, vc⟩ := vc
      replace hR := hR2.trans hR
      refine go_bipush (v := 20) dX12_qGoesOn_20 rfl ?_
      refine go_icmp_eq 43 dX12_qGoesOn_22 rfl (fun q => ?_) (fun q => ?_)
      · replace vc := vc.1 q
        exact vc
      · replace vc := vc.2 q
        refine go_aload_n (x := 82) dX12_qGoesOn_25 rfl ?_
        refine gvI0 MX12_qBracket dX12_qGoesOn_26 lX12_716 kX12_qBracket vX12_qBracket sh82 (by decide) rfl (Nat.le_of_ble_eq_true rfl) vc ?_
        intro v3 h3 vc
        obtain ⟨hR3, vc⟩ := vc
        replace hR := hR3.trans hR
        refine go_bipush (v := 23) dX12_qGoesOn_29 rfl ?_
        refine go_icmp_eq 43 dX12_qGoesOn_31 rfl (fun q => ?_) (fun q => ?_)
        · replace vc := vc.1 q
          exact vc
        · replace vc := vc.2 q
          refine go_aload_n (x := 82) dX12_qGoesOn_34 rfl ?_
          refine gvI0 MX12_qBracket dX12_qGoesOn_35 lX12_716 kX12_qBracket vX12_qBracket sh82 (by decide) rfl (Nat.le_of_ble_eq_true rfl) vc ?_
          intro v4 h4 vc
          obtain ⟨hR4, vc⟩ := vc
          replace hR := hR4.trans hR
          refine go_bipush (v := 24) dX12_qGoesOn_38 rfl ?_
          refine go_icmp_ne 122 dX12_qGoesOn_40 rfl (fun q => ?_) (fun q => ?_)
          · replace vc := vc.1 q
            exact vc
          · replace vc := vc.2 q
            exact vc
set_option maxRecDepth 20000 in
theorem wX12_qGoesOn_43 {p : Program} {l : Launch} {e : Env} {s : State} {m : MethodId} {args : Array Value} {below : List Frame} {meth : Method} {c : Code} {G : gG} {d : Nat} {Q : Option Value → gH → Prop} {h : gH} {lk sp : Nat} {cd : Option Nat}  (hR : h.2.2 = gRF lk sp cd) (hlk : lk = 30 ∨ lk = 67) (hsp : sp = 30 ∨ sp = 67)  (vc : gC l G d MX12_qDropsToBracket [.ref 82] (sI h 82 2 ((h.1 82 2) + 1)) (rV fun h1 => h1.2.2 = ((sI h 82 2 ((h.1 82 2) + 1))).2.2 ∧ (vp_in (((h1.1 82 108) - 1)) 1700 ∧ (((h1.1 165 (((h1.1 82 108) - 1) : Int32).toNatClampNeg) = 20 → gg p l e s m args below meth c G (d + 1) MX12_qGoesOn Q 115 [some (.ref 82), none] [] (sI (sI h1 82 108 ((h1.1 82 108) - 1)) 82 109 ((h1.1 82 109) - 1))) ∧ (¬ (h1.1 165 (((h1.1 82 108) - 1) : Int32).toNatClampNeg) = 20 → (vp_in (((h1.1 82 108) - 1)) 1700 ∧ ((¬ (h1.1 165 (((h1.1 82 108) - 1) : Int32).toNatClampNeg) = 23 → gC l G d MX12_qCode [.ref 82, .int 6] (sI (sI h1 82 108 ((h1.1 82 108) - 1)) 82 109 ((h1.1 82 109) - 1)) (rV fun h2 => h2.2.2 = ((sI (sI h1 82 108 ((h1.1 82 108) - 1)) 82 109 ((h1.1 82 109) - 1))).2.2 ∧ gg p l e s m args below meth c G (d + 1) MX12_qGoesOn Q 115 [some (.ref 82), none] [] h2)) ∧ ((h1.1 165 (((h1.1 82 108) - 1) : Int32).toNatClampNeg) = 23 → gC l G d MX12_qCode [.ref 82, .int 5] (sI (sI h1 82 108 ((h1.1 82 108) - 1)) 82 109 ((h1.1 82 109) - 1)) (rV fun h3 => h3.2.2 = ((sI (sI h1 82 108 ((h1.1 82 108) - 1)) 82 109 ((h1.1 82 109) - 1))).2.2 ∧ gg p l e s m args below meth c G (d + 1) MX12_qGoesOn Q 115 [some (.ref 82), none] [] h3))))))))) : gg p l e s m args below meth c G (d + 1) MX12_qGoesOn Q 43 [some (.ref 82), none] [] h := by
  refine go_aload_n (x := 82) dX12_qGoesOn_43 rfl ?_
  refine go_dup dX12_qGoesOn_44 rfl ?_
  refine go_getI' (v := (h.1 82 2)) dX12_qGoesOn_45 f12_284 sh82 (fun _ _ => rfl) rfl ?_
  refine go_iconst (v := 1) dX12_qGoesOn_48 rfl ?_
  refine go_iadd dX12_qGoesOn_49 ?_
  refine go_putI dX12_qGoesOn_50 f12_284 sh82 rfl rfl ?_
  refine go_aload_n (x := 82) dX12_qGoesOn_53 rfl ?_
  refine gvV0 MX12_qDropsToBracket dX12_qGoesOn_54 lX12_719 kX12_qDropsToBracket vX12_qDropsToBracket sh82 (by decide) rfl (Nat.le_of_ble_eq_true rfl) vc ?_
  intro h1 vc
  obtain ⟨hR1, vc⟩ := vc
  replace hR := hR1.trans hR
  refine go_aload_n (x := 82) dX12_qGoesOn_57 rfl ?_
  refine go_dup dX12_qGoesOn_58 rfl ?_
  refine go_getI' (v := (h1.1 82 108)) dX12_qGoesOn_59 f12_686 sh82 (fun _ _ => rfl) rfl ?_
  refine go_iconst (v := 1) dX12_qGoesOn_62 rfl ?_
  refine go_isub dX12_qGoesOn_63 ?_
  refine go_putI dX12_qGoesOn_64 f12_686 sh82 rfl rfl ?_
  refine go_aload_n (x := 82) dX12_qGoesOn_67 rfl ?_
  refine go_dup dX12_qGoesOn_68 rfl ?_
  refine go_getI' (v := (h1.1 82 109)) dX12_qGoesOn_69 f12_683 sh82 (fun _ _ => rfl) rfl ?_
  refine go_iconst (v := 1) dX12_qGoesOn_72 rfl ?_
  refine go_isub dX12_qGoesOn_73 ?_
  refine go_putI dX12_qGoesOn_74 f12_683 sh82 rfl rfl ?_
  refine go_aload_n (x := 82) dX12_qGoesOn_77 rfl ?_
  refine go_getR (x := 165) dX12_qGoesOn_78 f12_266 sh82 (fun _ _ => rfl) (rf82_107 hR) ?_
  refine go_aload_n (x := 82) dX12_qGoesOn_81 rfl ?_
  refine go_getI' (v := ((h1.1 82 108) - 1)) dX12_qGoesOn_82 f12_686 sh82 (fun _ _ => rfl) rfl ?_
  refine go_iald' (v := (h1.1 165 (((h1.1 82 108) - 1) : Int32).toNatClampNeg)) dX12_qGoesOn_85 sh165 vc.1 rfl ?_
  have vc := vc.2
  refine go_bipush (v := 20) dX12_qGoesOn_86 rfl ?_
  refine go_icmp_eq 115 dX12_qGoesOn_88 rfl (fun q => ?_) (fun q => ?_)
  · replace vc := vc.1 q
    exact vc
  · replace vc := vc.2 q
    refine go_aload_n (x := 82) dX12_qGoesOn_91 rfl ?_
    refine go_aload_n (x := 82) dX12_qGoesOn_92 rfl ?_
    refine go_getR (x := 165) dX12_qGoesOn_93 f12_266 sh82 (fun _ _ => rfl) (rf82_107 hR) ?_
    refine go_aload_n (x := 82) dX12_qGoesOn_96 rfl ?_
    refine go_getI' (v := ((h1.1 82 108) - 1)) dX12_qGoesOn_97 f12_686 sh82 (fun _ _ => rfl) rfl ?_
    refine go_iald' (v := (h1.1 165 (((h1.1 82 108) - 1) : Int32).toNatClampNeg)) dX12_qGoesOn_100 sh165 vc.1 rfl ?_
    have vc := vc.2
    refine go_bipush (v := 23) dX12_qGoesOn_101 rfl ?_
    refine go_icmp_ne 110 dX12_qGoesOn_103 rfl (fun q => ?_) (fun q => ?_)
    · replace vc := vc.1 q
      refine go_bipush (v := 6) dX12_qGoesOn_110 rfl ?_
      refine gvV1 MX12_qCode dX12_qGoesOn_112 lX12_689 kX12_qCode vX12_qCode sh82 (by decide) rfl (Nat.le_of_ble_eq_true rfl) vc ?_
      intro h2 vc
      obtain ⟨hR2, vc⟩ := vc
      replace hR := hR2.trans hR
      exact vc
    · replace vc := vc.2 q
      refine go_iconst (v := 5) dX12_qGoesOn_106 rfl ?_
      refine go_goto 112 dX12_qGoesOn_107 rfl ?_
      refine gvV1 MX12_qCode dX12_qGoesOn_112 lX12_689 kX12_qCode vX12_qCode sh82 (by decide) rfl (Nat.le_of_ble_eq_true rfl) vc ?_
      intro h3 vc
      obtain ⟨hR3, vc⟩ := vc
      replace hR := hR3.trans hR
      exact vc
set_option maxRecDepth 20000 in
theorem wX12_qGoesOn_115 {p : Program} {l : Launch} {e : Env} {s : State} {m : MethodId} {args : Array Value} {below : List Frame} {meth : Method} {c : Code} {G : gG} {d : Nat} {Q : Option Value → gH → Prop} {h : gH} {lk sp : Nat} {cd : Option Nat}  (hR : h.2.2 = gRF lk sp cd) (hlk : lk = 30 ∨ lk = 67) (hsp : sp = 30 ∨ sp = 67)  (vc : gC l G d MX12_qEndsPart [.ref 82] h (rV fun h1 => h1.2.2 = (h).2.2 ∧ gg p l e s m args below meth c G (d + 1) MX12_qGoesOn Q 0 [some (.ref 82), none] [] h1)) : gg p l e s m args below meth c G (d + 1) MX12_qGoesOn Q 115 [some (.ref 82), none] [] h := by
  refine go_aload_n (x := 82) dX12_qGoesOn_115 rfl ?_
  refine gvV0 MX12_qEndsPart dX12_qGoesOn_116 lX12_713 kX12_qEndsPart vX12_qEndsPart sh82 (by decide) rfl (Nat.le_of_ble_eq_true rfl) vc ?_
  intro h1 vc
  obtain ⟨hR1, vc⟩ := vc
  replace hR := hR1.trans hR
  refine go_goto 0 dX12_qGoesOn_119 rfl ?_
  exact vc
set_option maxRecDepth 20000 in
theorem wX12_qGoesOn_122 {p : Program} {l : Launch} {e : Env} {s : State} {m : MethodId} {args : Array Value} {below : List Frame} {meth : Method} {c : Code} {G : gG} {d : Nat} {Q : Option Value → gH → Prop} {h : gH} {lk sp : Nat} {cd : Option Nat}  (hR : h.2.2 = gRF lk sp cd) (hlk : lk = 30 ∨ lk = 67) (hsp : sp = 30 ∨ sp = 67)  (vc : gC l G d MX12_takesSign [.ref 82, .int 42] h (rI fun v1 h1 => h1.2.2 = (h).2.2 ∧ ((¬ v1 = 0 → gg p l e s m args below meth c G (d + 1) MX12_qGoesOn Q 140 [some (.ref 82), none] [] h1) ∧ (v1 = 0 → gC l G d MX12_takesSign [.ref 82, .int 47] h1 (rI fun v2 h2 => h2.2.2 = (h1).2.2 ∧ ((v2 = 0 → gC l G d MX12_takesSign [.ref 82, .int 43] h2 (rI fun v3 h3 => h3.2.2 = (h2).2.2 ∧ ((¬ v3 = 0 → gg p l e s m args below meth c G (d + 1) MX12_qGoesOn Q 225 [some (.ref 82), none] [] h3) ∧ (v3 = 0 → gC l G d MX12_takesSign [.ref 82, .int 45] h3 (rI fun v4 h4 => h4.2.2 = (h3).2.2 ∧ ((v4 = 0 → gC l G d MX12_qBracket [.ref 82] h4 (rI fun v5 h5 => h5.2.2 = (h4).2.2 ∧ ((v5 = 21 → gg p l e s m args below meth c G (d + 1) MX12_qGoesOn Q 326 [some (.ref 82), none] [] h5) ∧ (¬ v5 = 21 → gC l G d MX12_qBracket [.ref 82] h5 (rI fun v6 h6 => h6.2.2 = (h5).2.2 ∧ ((¬ v6 = 22 → gC l G d MX12_qBracket [.ref 82] h6 (rI fun v7 h7 => h7.2.2 = (h6).2.2 ∧ ((v7 = (-1) → gg p l e s m args below meth c G (d + 1) MX12_qGoesOn Q 386 [some (.ref 82), none] [] h7) ∧ (¬ v7 = (-1) → ((¬ (h7.1 82 5) = 0 → gg p l e s m args below meth c G (d + 1) MX12_qGoesOn Q 386 [some (.ref 82), none] [] h7) ∧ ((h7.1 82 5) = 0 → gC l G d MX12_fail [.ref 82, .int 1, .int (h7.1 82 2)] h7 (rV fun h8 => h8.2.2 = (h7).2.2 ∧ gg p l e s m args below meth c G (d + 1) MX12_qGoesOn Q 386 [some (.ref 82), none] [] h8))))))) ∧ (v6 = 22 → gg p l e s m args below meth c G (d + 1) MX12_qGoesOn Q 326 [some (.ref 82), none] [] h6))))))) ∧ (¬ v4 = 0 → gg p l e s m args below meth c G (d + 1) MX12_qGoesOn Q 225 [some (.ref 82), none] [] h4))))))) ∧ (¬ v2 = 0 → gg p l e s m args below meth c G (d + 1) MX12_qGoesOn Q 140 [some (.ref 82), none] [] h2))))))) : gg p l e s m args below meth c G (d + 1) MX12_qGoesOn Q 122 [some (.ref 82), none] [] h := by
  refine go_aload_n (x := 82) dX12_qGoesOn_122 rfl ?_
  refine go_bipush (v := 42) dX12_qGoesOn_123 rfl ?_
  refine gvI1 MX12_takesSign dX12_qGoesOn_125 lX12_312 kX12_takesSign vX12_takesSign sh82 (by decide) rfl (Nat.le_of_ble_eq_true rfl) vc ?_
  intro v1 h1 vc
  obtain ⟨hR1, vc⟩ := vc
  replace hR := hR1.trans hR
  refine go_if_ne 140 dX12_qGoesOn_128 rfl (fun q => ?_) (fun q => ?_)
  · replace vc := vc.1 q
    exact vc
  · replace vc := vc.2 q
    refine go_aload_n (x := 82) dX12_qGoesOn_131 rfl ?_
    refine go_bipush (v := 47) dX12_qGoesOn_132 rfl ?_
    refine gvI1 MX12_takesSign dX12_qGoesOn_134 lX12_312 kX12_takesSign vX12_takesSign sh82 (by decide) rfl (Nat.le_of_ble_eq_true rfl) vc ?_
    intro v2 h2 vc
    obtain ⟨hR2, vc⟩ := vc
    replace hR := hR2.trans hR
    refine go_if_eq 207 dX12_qGoesOn_137 rfl (fun q => ?_) (fun q => ?_)
    · replace vc := vc.1 q
      refine go_aload_n (x := 82) dX12_qGoesOn_207 rfl ?_
      refine go_bipush (v := 43) dX12_qGoesOn_208 rfl ?_
      refine gvI1 MX12_takesSign dX12_qGoesOn_210 lX12_312 kX12_takesSign vX12_takesSign sh82 (by decide) rfl (Nat.le_of_ble_eq_true rfl) vc ?_
      intro v3 h3 vc
      obtain ⟨hR3, vc⟩ := vc
      replace hR := hR3.trans hR
      refine go_if_ne 225 dX12_qGoesOn_213 rfl (fun q => ?_) (fun q => ?_)
      · replace vc := vc.1 q
        exact vc
      · replace vc := vc.2 q
        refine go_aload_n (x := 82) dX12_qGoesOn_216 rfl ?_
        refine go_bipush (v := 45) dX12_qGoesOn_217 rfl ?_
        refine gvI1 MX12_takesSign dX12_qGoesOn_219 lX12_312 kX12_takesSign vX12_takesSign sh82 (by decide) rfl (Nat.le_of_ble_eq_true rfl) vc ?_
        intro v4 h4 vc
        obtain ⟨hR4, vc⟩ := vc
        replace hR := hR4.trans hR
        refine go_if_eq 308 dX12_qGoesOn_222 rfl (fun q => ?_) (fun q => ?_)
        · replace vc := vc.1 q
          refine go_aload_n (x := 82) dX12_qGoesOn_308 rfl ?_
          refine gvI0 MX12_qBracket dX12_qGoesOn_309 lX12_716 kX12_qBracket vX12_qBracket sh82 (by decide) rfl (Nat.le_of_ble_eq_true rfl) vc ?_
          intro v5 h5 vc
          obtain ⟨hR5, vc⟩ := vc
          replace hR := hR5.trans hR
          refine go_bipush (v := 21) dX12_qGoesOn_312 rfl ?_
          refine go_icmp_eq 326 dX12_qGoesOn_314 rfl (fun q => ?_) (fun q => ?_)
          · replace vc := vc.1 q
            exact vc
          · replace vc := vc.2 q
            refine go_aload_n (x := 82) dX12_qGoesOn_317 rfl ?_
            refine gvI0 MX12_qBracket dX12_qGoesOn_318 lX12_716 kX12_qBracket vX12_qBracket sh82 (by decide) rfl (Nat.le_of_ble_eq_true rfl) vc ?_
            intro v6 h6 vc
            obtain ⟨hR6, vc⟩ := vc
            replace hR := hR6.trans hR
            refine go_bipush (v := 22) dX12_qGoesOn_321 rfl ?_
            refine go_icmp_ne 362 dX12_qGoesOn_323 rfl (fun q => ?_) (fun q => ?_)
            · replace vc := vc.1 q
              refine go_aload_n (x := 82) dX12_qGoesOn_362 rfl ?_
              refine gvI0 MX12_qBracket dX12_qGoesOn_363 lX12_716 kX12_qBracket vX12_qBracket sh82 (by decide) rfl (Nat.le_of_ble_eq_true rfl) vc ?_
              intro v7 h7 vc
              obtain ⟨hR7, vc⟩ := vc
              replace hR := hR7.trans hR
              refine go_iconst (v := (-1)) dX12_qGoesOn_366 rfl ?_
              refine go_icmp_eq 386 dX12_qGoesOn_367 rfl (fun q => ?_) (fun q => ?_)
              · replace vc := vc.1 q
                exact vc
              · replace vc := vc.2 q
                refine go_aload_n (x := 82) dX12_qGoesOn_370 rfl ?_
                refine go_getI' (v := (h7.1 82 5)) dX12_qGoesOn_371 f12_278 sh82 (fun _ _ => rfl) rfl ?_
                refine go_if_ne 386 dX12_qGoesOn_374 rfl (fun q => ?_) (fun q => ?_)
                · replace vc := vc.1 q
                  exact vc
                · replace vc := vc.2 q
                  refine go_aload_n (x := 82) dX12_qGoesOn_377 rfl ?_
                  refine go_iconst (v := 1) dX12_qGoesOn_378 rfl ?_
                  refine go_aload_n (x := 82) dX12_qGoesOn_379 rfl ?_
                  refine go_getI' (v := (h7.1 82 2)) dX12_qGoesOn_380 f12_284 sh82 (fun _ _ => rfl) rfl ?_
                  refine gvV2 MX12_fail dX12_qGoesOn_383 lX12_308 kX12_fail vX12_fail sh82 (by decide) rfl (Nat.le_of_ble_eq_true rfl) vc ?_
                  intro h8 vc
                  obtain ⟨hR8, vc⟩ := vc
                  replace hR := hR8.trans hR
                  exact vc
            · replace vc := vc.2 q
              exact vc
        · replace vc := vc.2 q
          exact vc
    · replace vc := vc.2 q
      exact vc
set_option maxRecDepth 20000 in
theorem wX12_qGoesOn_140 {p : Program} {l : Launch} {e : Env} {s : State} {m : MethodId} {args : Array Value} {below : List Frame} {meth : Method} {c : Code} {G : gG} {d : Nat} {Q : Option Value → gH → Prop} {h : gH} {lk sp : Nat} {cd : Option Nat}  (hR : h.2.2 = gRF lk sp cd) (hlk : lk = 30 ∨ lk = 67) (hsp : sp = 30 ∨ sp = 67)  (vc : (vp_in (((h.1 82 2) - 1)) 1600 ∧ ((¬ (h.1 83 (((h.1 82 2) - 1) : Int32).toNatClampNeg) = 42 → gg p l e s m args below meth c G (d + 1) MX12_qGoesOn Q 162 [some (.ref 82), some (.int 4)] [] h) ∧ ((h.1 83 (((h.1 82 2) - 1) : Int32).toNatClampNeg) = 42 → gg p l e s m args below meth c G (d + 1) MX12_qGoesOn Q 162 [some (.ref 82), some (.int 3)] [] h)))) : gg p l e s m args below meth c G (d + 1) MX12_qGoesOn Q 140 [some (.ref 82), none] [] h := by
  refine go_aload_n (x := 82) dX12_qGoesOn_140 rfl ?_
  refine go_getR (x := 83) dX12_qGoesOn_141 f12_7 sh82 (fun _ _ => rfl) (rf82_0 hR) ?_
  refine go_aload_n (x := 82) dX12_qGoesOn_144 rfl ?_
  refine go_getI' (v := (h.1 82 2)) dX12_qGoesOn_145 f12_284 sh82 (fun _ _ => rfl) rfl ?_
  refine go_iconst (v := 1) dX12_qGoesOn_148 rfl ?_
  refine go_isub dX12_qGoesOn_149 ?_
  refine go_iald' (v := (h.1 83 (((h.1 82 2) - 1) : Int32).toNatClampNeg)) dX12_qGoesOn_150 sh83 vc.1 rfl ?_
  have vc := vc.2
  refine go_bipush (v := 42) dX12_qGoesOn_151 rfl ?_
  refine go_icmp_ne 160 dX12_qGoesOn_153 rfl (fun q => ?_) (fun q => ?_)
  · replace vc := vc.1 q
    refine go_iconst (v := 4) dX12_qGoesOn_160 rfl ?_
    refine go_istore_n dX12_qGoesOn_161 (Nat.le_of_ble_eq_true rfl) ?_
    show gg p l e s m args below meth c G (d + 1) MX12_qGoesOn Q 162 [some (.ref 82), some (.int 4)] [] h
    exact vc
  · replace vc := vc.2 q
    refine go_iconst (v := 3) dX12_qGoesOn_156 rfl ?_
    refine go_goto 161 dX12_qGoesOn_157 rfl ?_
    refine go_istore_n dX12_qGoesOn_161 (Nat.le_of_ble_eq_true rfl) ?_
    show gg p l e s m args below meth c G (d + 1) MX12_qGoesOn Q 162 [some (.ref 82), some (.int 3)] [] h
    exact vc
set_option maxRecDepth 20000 in
theorem wX12_qGoesOn_162 {p : Program} {l : Launch} {e : Env} {s : State} {m : MethodId} {args : Array Value} {below : List Frame} {meth : Method} {c : Code} {G : gG} {d : Nat} {Q : Option Value → gH → Prop} {h : gH} {lk sp : Nat} {cd : Option Nat} {x1 : Int32} (hR : h.2.2 = gRF lk sp cd) (hlk : lk = 30 ∨ lk = 67) (hsp : sp = 30 ∨ sp = 67)  (vc : gC l G d MX12_qIsOn [.ref 82, .int 3] h (rI fun v1 h1 => h1.2.2 = (h).2.2 ∧ ((¬ v1 = 0 → gg p l e s m args below meth c G (d + 1) MX12_qGoesOn Q 178 [some (.ref 82), some (.int x1)] [] h1) ∧ (v1 = 0 → gC l G d MX12_qIsOn [.ref 82, .int 4] h1 (rI fun v2 h2 => h2.2.2 = (h1).2.2 ∧ ((v2 = 0 → (vp_in ((h2.1 82 108)) 1700 ∧ Q (some (.int 1)) (sI (sI h2 165 ((h2.1 82 108) : Int32).toNatClampNeg x1) 82 108 ((h2.1 82 108) + 1)))) ∧ (¬ v2 = 0 → gg p l e s m args below meth c G (d + 1) MX12_qGoesOn Q 178 [some (.ref 82), some (.int x1)] [] h2))))))) : gg p l e s m args below meth c G (d + 1) MX12_qGoesOn Q 162 [some (.ref 82), some (.int x1)] [] h := by
  refine go_aload_n (x := 82) dX12_qGoesOn_162 rfl ?_
  refine go_iconst (v := 3) dX12_qGoesOn_163 rfl ?_
  refine gvI1 MX12_qIsOn dX12_qGoesOn_164 lX12_722 kX12_qIsOn vX12_qIsOn sh82 (by decide) rfl (Nat.le_of_ble_eq_true rfl) vc ?_
  intro v1 h1 vc
  obtain ⟨hR1, vc⟩ := vc
  replace hR := hR1.trans hR
  refine go_if_ne 178 dX12_qGoesOn_167 rfl (fun q => ?_) (fun q => ?_)
  · replace vc := vc.1 q
    exact vc
  · replace vc := vc.2 q
    refine go_aload_n (x := 82) dX12_qGoesOn_170 rfl ?_
    refine go_iconst (v := 4) dX12_qGoesOn_171 rfl ?_
    refine gvI1 MX12_qIsOn dX12_qGoesOn_172 lX12_722 kX12_qIsOn vX12_qIsOn sh82 (by decide) rfl (Nat.le_of_ble_eq_true rfl) vc ?_
    intro v2 h2 vc
    obtain ⟨hR2, vc⟩ := vc
    replace hR := hR2.trans hR
    refine go_if_eq 185 dX12_qGoesOn_175 rfl (fun q => ?_) (fun q => ?_)
    · replace vc := vc.1 q
      refine go_aload_n (x := 82) dX12_qGoesOn_185 rfl ?_
      refine go_getR (x := 165) dX12_qGoesOn_186 f12_266 sh82 (fun _ _ => rfl) (rf82_107 hR) ?_
      refine go_aload_n (x := 82) dX12_qGoesOn_189 rfl ?_
      refine go_getI' (v := (h2.1 82 108)) dX12_qGoesOn_190 f12_686 sh82 (fun _ _ => rfl) rfl ?_
      refine go_iload_n (x := x1) dX12_qGoesOn_193 rfl ?_
      refine go_iast dX12_qGoesOn_194 sh165 vc.1 ?_
      have vc := vc.2
      show gg p l e s m args below meth c G (d + 1) MX12_qGoesOn Q 195 [some (.ref 82), some (.int x1)] [] (sI h2 165 ((h2.1 82 108) : Int32).toNatClampNeg x1)
      refine go_aload_n (x := 82) dX12_qGoesOn_195 rfl ?_
      refine go_dup dX12_qGoesOn_196 rfl ?_
      refine go_getI' (v := (h2.1 82 108)) dX12_qGoesOn_197 f12_686 sh82 (fun _ _ => rfl) rfl ?_
      refine go_iconst (v := 1) dX12_qGoesOn_200 rfl ?_
      refine go_iadd dX12_qGoesOn_201 ?_
      refine go_putI dX12_qGoesOn_202 f12_686 sh82 rfl rfl ?_
      refine go_iconst (v := 1) dX12_qGoesOn_205 rfl ?_
      exact go_zret dX12_qGoesOn_206 rfl (by decide) vc rfl (Nat.le_refl _) (Nat.le_refl _)
    · replace vc := vc.2 q
      exact vc
set_option maxRecDepth 20000 in
theorem wX12_qGoesOn_178 {p : Program} {l : Launch} {e : Env} {s : State} {m : MethodId} {args : Array Value} {below : List Frame} {meth : Method} {c : Code} {G : gG} {d : Nat} {Q : Option Value → gH → Prop} {h : gH} {lk sp : Nat} {cd : Option Nat} {x1 : Int32} (hR : h.2.2 = gRF lk sp cd) (hlk : lk = 30 ∨ lk = 67) (hsp : sp = 30 ∨ sp = 67)  (vc : gC l G d MX12_qDrops [.ref 82] h (rV fun h1 => h1.2.2 = (h).2.2 ∧ gg p l e s m args below meth c G (d + 1) MX12_qGoesOn Q 162 [some (.ref 82), some (.int x1)] [] h1)) : gg p l e s m args below meth c G (d + 1) MX12_qGoesOn Q 178 [some (.ref 82), some (.int x1)] [] h := by
  refine go_aload_n (x := 82) dX12_qGoesOn_178 rfl ?_
  refine gvV0 MX12_qDrops dX12_qGoesOn_179 lX12_698 kX12_qDrops vX12_qDrops sh82 (by decide) rfl (Nat.le_of_ble_eq_true rfl) vc ?_
  intro h1 vc
  obtain ⟨hR1, vc⟩ := vc
  replace hR := hR1.trans hR
  refine go_goto 162 dX12_qGoesOn_182 rfl ?_
  exact vc
set_option maxRecDepth 20000 in
theorem wX12_qGoesOn_225 {p : Program} {l : Launch} {e : Env} {s : State} {m : MethodId} {args : Array Value} {below : List Frame} {meth : Method} {c : Code} {G : gG} {d : Nat} {Q : Option Value → gH → Prop} {h : gH} {lk sp : Nat} {cd : Option Nat}  (hR : h.2.2 = gRF lk sp cd) (hlk : lk = 30 ∨ lk = 67) (hsp : sp = 30 ∨ sp = 67)  (vc : (vp_in (((h.1 82 2) - 1)) 1600 ∧ ((¬ (h.1 83 (((h.1 82 2) - 1) : Int32).toNatClampNeg) = 43 → gg p l e s m args below meth c G (d + 1) MX12_qGoesOn Q 247 [some (.ref 82), some (.int 2)] [] h) ∧ ((h.1 83 (((h.1 82 2) - 1) : Int32).toNatClampNeg) = 43 → gg p l e s m args below meth c G (d + 1) MX12_qGoesOn Q 247 [some (.ref 82), some (.int 1)] [] h)))) : gg p l e s m args below meth c G (d + 1) MX12_qGoesOn Q 225 [some (.ref 82), none] [] h := by
  refine go_aload_n (x := 82) dX12_qGoesOn_225 rfl ?_
  refine go_getR (x := 83) dX12_qGoesOn_226 f12_7 sh82 (fun _ _ => rfl) (rf82_0 hR) ?_
  refine go_aload_n (x := 82) dX12_qGoesOn_229 rfl ?_
  refine go_getI' (v := (h.1 82 2)) dX12_qGoesOn_230 f12_284 sh82 (fun _ _ => rfl) rfl ?_
  refine go_iconst (v := 1) dX12_qGoesOn_233 rfl ?_
  refine go_isub dX12_qGoesOn_234 ?_
  refine go_iald' (v := (h.1 83 (((h.1 82 2) - 1) : Int32).toNatClampNeg)) dX12_qGoesOn_235 sh83 vc.1 rfl ?_
  have vc := vc.2
  refine go_bipush (v := 43) dX12_qGoesOn_236 rfl ?_
  refine go_icmp_ne 245 dX12_qGoesOn_238 rfl (fun q => ?_) (fun q => ?_)
  · replace vc := vc.1 q
    refine go_iconst (v := 2) dX12_qGoesOn_245 rfl ?_
    refine go_istore_n dX12_qGoesOn_246 (Nat.le_of_ble_eq_true rfl) ?_
    show gg p l e s m args below meth c G (d + 1) MX12_qGoesOn Q 247 [some (.ref 82), some (.int 2)] [] h
    exact vc
  · replace vc := vc.2 q
    refine go_iconst (v := 1) dX12_qGoesOn_241 rfl ?_
    refine go_goto 246 dX12_qGoesOn_242 rfl ?_
    refine go_istore_n dX12_qGoesOn_246 (Nat.le_of_ble_eq_true rfl) ?_
    show gg p l e s m args below meth c G (d + 1) MX12_qGoesOn Q 247 [some (.ref 82), some (.int 1)] [] h
    exact vc
set_option maxRecDepth 20000 in
theorem wX12_qGoesOn_247 {p : Program} {l : Launch} {e : Env} {s : State} {m : MethodId} {args : Array Value} {below : List Frame} {meth : Method} {c : Code} {G : gG} {d : Nat} {Q : Option Value → gH → Prop} {h : gH} {lk sp : Nat} {cd : Option Nat} {x1 : Int32} (hR : h.2.2 = gRF lk sp cd) (hlk : lk = 30 ∨ lk = 67) (hsp : sp = 30 ∨ sp = 67)  (vc : gC l G d MX12_qIsOn [.ref 82, .int 3] h (rI fun v1 h1 => h1.2.2 = (h).2.2 ∧ ((¬ v1 = 0 → gg p l e s m args below meth c G (d + 1) MX12_qGoesOn Q 279 [some (.ref 82), some (.int x1)] [] h1) ∧ (v1 = 0 → gC l G d MX12_qIsOn [.ref 82, .int 4] h1 (rI fun v2 h2 => h2.2.2 = (h1).2.2 ∧ ((¬ v2 = 0 → gg p l e s m args below meth c G (d + 1) MX12_qGoesOn Q 279 [some (.ref 82), some (.int x1)] [] h2) ∧ (v2 = 0 → gC l G d MX12_qIsOn [.ref 82, .int 1] h2 (rI fun v3 h3 => h3.2.2 = (h2).2.2 ∧ ((¬ v3 = 0 → gg p l e s m args below meth c G (d + 1) MX12_qGoesOn Q 279 [some (.ref 82), some (.int x1)] [] h3) ∧ (v3 = 0 → gC l G d MX12_qIsOn [.ref 82, .int 2] h3 (rI fun v4 h4 => h4.2.2 = (h3).2.2 ∧ ((v4 = 0 → (vp_in ((h4.1 82 108)) 1700 ∧ Q (some (.int 1)) (sI (sI h4 165 ((h4.1 82 108) : Int32).toNatClampNeg x1) 82 108 ((h4.1 82 108) + 1)))) ∧ (¬ v4 = 0 → gg p l e s m args below meth c G (d + 1) MX12_qGoesOn Q 279 [some (.ref 82), some (.int x1)] [] h4))))))))))))) : gg p l e s m args below meth c G (d + 1) MX12_qGoesOn Q 247 [some (.ref 82), some (.int x1)] [] h := by
  refine go_aload_n (x := 82) dX12_qGoesOn_247 rfl ?_
  refine go_iconst (v := 3) dX12_qGoesOn_248 rfl ?_
  refine gvI1 MX12_qIsOn dX12_qGoesOn_249 lX12_722 kX12_qIsOn vX12_qIsOn sh82 (by decide) rfl (Nat.le_of_ble_eq_true rfl) vc ?_
  intro v1 h1 vc
  obtain ⟨hR1, vc⟩ := vc
  replace hR := hR1.trans hR
  refine go_if_ne 279 dX12_qGoesOn_252 rfl (fun q => ?_) (fun q => ?_)
  · replace vc := vc.1 q
    exact vc
  · replace vc := vc.2 q
    refine go_aload_n (x := 82) dX12_qGoesOn_255 rfl ?_
    refine go_iconst (v := 4) dX12_qGoesOn_256 rfl ?_
    refine gvI1 MX12_qIsOn dX12_qGoesOn_257 lX12_722 kX12_qIsOn vX12_qIsOn sh82 (by decide) rfl (Nat.le_of_ble_eq_true rfl) vc ?_
    intro v2 h2 vc
    obtain ⟨hR2, vc⟩ := vc
    replace hR := hR2.trans hR
    refine go_if_ne 279 dX12_qGoesOn_260 rfl (fun q => ?_) (fun q => ?_)
    · replace vc := vc.1 q
      exact vc
    · replace vc := vc.2 q
      refine go_aload_n (x := 82) dX12_qGoesOn_263 rfl ?_
      refine go_iconst (v := 1) dX12_qGoesOn_264 rfl ?_
      refine gvI1 MX12_qIsOn dX12_qGoesOn_265 lX12_722 kX12_qIsOn vX12_qIsOn sh82 (by decide) rfl (Nat.le_of_ble_eq_true rfl) vc ?_
      intro v3 h3 vc
      obtain ⟨hR3, vc⟩ := vc
      replace hR := hR3.trans hR
      refine go_if_ne 279 dX12_qGoesOn_268 rfl (fun q => ?_) (fun q => ?_)
      · replace vc := vc.1 q
        exact vc
      · replace vc := vc.2 q
        refine go_aload_n (x := 82) dX12_qGoesOn_271 rfl ?_
        refine go_iconst (v := 2) dX12_qGoesOn_272 rfl ?_
        refine gvI1 MX12_qIsOn dX12_qGoesOn_273 lX12_722 kX12_qIsOn vX12_qIsOn sh82 (by decide) rfl (Nat.le_of_ble_eq_true rfl) vc ?_
        intro v4 h4 vc
        obtain ⟨hR4, vc⟩ := vc
        replace hR := hR4.trans hR
        refine go_if_eq 286 dX12_qGoesOn_276 rfl (fun q => ?_) (fun q => ?_)
        · replace vc := vc.1 q
          refine go_aload_n (x := 82) dX12_qGoesOn_286 rfl ?_
          refine go_getR (x := 165) dX12_qGoesOn_287 f12_266 sh82 (fun _ _ => rfl) (rf82_107 hR) ?_
          refine go_aload_n (x := 82) dX12_qGoesOn_290 rfl ?_
          refine go_getI' (v := (h4.1 82 108)) dX12_qGoesOn_291 f12_686 sh82 (fun _ _ => rfl) rfl ?_
          refine go_iload_n (x := x1) dX12_qGoesOn_294 rfl ?_
          refine go_iast dX12_qGoesOn_295 sh165 vc.1 ?_
          have vc := vc.2
          show gg p l e s m args below meth c G (d + 1) MX12_qGoesOn Q 296 [some (.ref 82), some (.int x1)] [] (sI h4 165 ((h4.1 82 108) : Int32).toNatClampNeg x1)
          refine go_aload_n (x := 82) dX12_qGoesOn_296 rfl ?_
          refine go_dup dX12_qGoesOn_297 rfl ?_
          refine go_getI' (v := (h4.1 82 108)) dX12_qGoesOn_298 f12_686 sh82 (fun _ _ => rfl) rfl ?_
          refine go_iconst (v := 1) dX12_qGoesOn_301 rfl ?_
          refine go_iadd dX12_qGoesOn_302 ?_
          refine go_putI dX12_qGoesOn_303 f12_686 sh82 rfl rfl ?_
          refine go_iconst (v := 1) dX12_qGoesOn_306 rfl ?_
          exact go_zret dX12_qGoesOn_307 rfl (by decide) vc rfl (Nat.le_refl _) (Nat.le_refl _)
        · replace vc := vc.2 q
          exact vc
set_option maxRecDepth 20000 in
theorem wX12_qGoesOn_279 {p : Program} {l : Launch} {e : Env} {s : State} {m : MethodId} {args : Array Value} {below : List Frame} {meth : Method} {c : Code} {G : gG} {d : Nat} {Q : Option Value → gH → Prop} {h : gH} {lk sp : Nat} {cd : Option Nat} {x1 : Int32} (hR : h.2.2 = gRF lk sp cd) (hlk : lk = 30 ∨ lk = 67) (hsp : sp = 30 ∨ sp = 67)  (vc : gC l G d MX12_qDrops [.ref 82] h (rV fun h1 => h1.2.2 = (h).2.2 ∧ gg p l e s m args below meth c G (d + 1) MX12_qGoesOn Q 247 [some (.ref 82), some (.int x1)] [] h1)) : gg p l e s m args below meth c G (d + 1) MX12_qGoesOn Q 279 [some (.ref 82), some (.int x1)] [] h := by
  refine go_aload_n (x := 82) dX12_qGoesOn_279 rfl ?_
  refine gvV0 MX12_qDrops dX12_qGoesOn_280 lX12_698 kX12_qDrops vX12_qDrops sh82 (by decide) rfl (Nat.le_of_ble_eq_true rfl) vc ?_
  intro h1 vc
  obtain ⟨hR1, vc⟩ := vc
  replace hR := hR1.trans hR
  refine go_goto 247 dX12_qGoesOn_283 rfl ?_
  exact vc
set_option maxRecDepth 20000 in
theorem wX12_qGoesOn_326 {p : Program} {l : Launch} {e : Env} {s : State} {m : MethodId} {args : Array Value} {below : List Frame} {meth : Method} {c : Code} {G : gG} {d : Nat} {Q : Option Value → gH → Prop} {h : gH} {lk sp : Nat} {cd : Option Nat}  (hR : h.2.2 = gRF lk sp cd) (hlk : lk = 30 ∨ lk = 67) (hsp : sp = 30 ∨ sp = 67)  (vc : gC l G d MX12_asksSign [.ref 82, .int 44] h (rV fun h1 => h1.2.2 = (h).2.2 ∧ (((h1.1 82 5) = 0 → gC l G d MX12_qDropsToBracket [.ref 82] h1 (rV fun h2 => h2.2.2 = (h1).2.2 ∧ (vp_in (((h2.1 82 108) - 1)) 1700 ∧ (vp_in (((h2.1 82 108) - 1)) 1700 ∧ Q (some (.int 1)) (sI h2 165 (((h2.1 82 108) - 1) : Int32).toNatClampNeg ((h2.1 165 (((h2.1 82 108) - 1) : Int32).toNatClampNeg) + 2)))))) ∧ (¬ (h1.1 82 5) = 0 → Q (some (.int 0)) h1)))) : gg p l e s m args below meth c G (d + 1) MX12_qGoesOn Q 326 [some (.ref 82), none] [] h := by
  refine go_aload_n (x := 82) dX12_qGoesOn_326 rfl ?_
  refine go_bipush (v := 44) dX12_qGoesOn_327 rfl ?_
  refine gvV1 MX12_asksSign dX12_qGoesOn_329 lX12_352 kX12_asksSign vX12_asksSign sh82 (by decide) rfl (Nat.le_of_ble_eq_true rfl) vc ?_
  intro h1 vc
  obtain ⟨hR1, vc⟩ := vc
  replace hR := hR1.trans hR
  refine go_aload_n (x := 82) dX12_qGoesOn_332 rfl ?_
  refine go_getI' (v := (h1.1 82 5)) dX12_qGoesOn_333 f12_278 sh82 (fun _ _ => rfl) rfl ?_
  refine go_if_eq 341 dX12_qGoesOn_336 rfl (fun q => ?_) (fun q => ?_)
  · replace vc := vc.1 q
    refine go_aload_n (x := 82) dX12_qGoesOn_341 rfl ?_
    refine gvV0 MX12_qDropsToBracket dX12_qGoesOn_342 lX12_719 kX12_qDropsToBracket vX12_qDropsToBracket sh82 (by decide) rfl (Nat.le_of_ble_eq_true rfl) vc ?_
    intro h2 vc
    obtain ⟨hR2, vc⟩ := vc
    replace hR := hR2.trans hR
    refine go_aload_n (x := 82) dX12_qGoesOn_345 rfl ?_
    refine go_getR (x := 165) dX12_qGoesOn_346 f12_266 sh82 (fun _ _ => rfl) (rf82_107 hR) ?_
    refine go_aload_n (x := 82) dX12_qGoesOn_349 rfl ?_
    refine go_getI' (v := (h2.1 82 108)) dX12_qGoesOn_350 f12_686 sh82 (fun _ _ => rfl) rfl ?_
    refine go_iconst (v := 1) dX12_qGoesOn_353 rfl ?_
    refine go_isub dX12_qGoesOn_354 ?_
    refine go_dup2 dX12_qGoesOn_355 rfl rfl ?_
    refine go_iald' (v := (h2.1 165 (((h2.1 82 108) - 1) : Int32).toNatClampNeg)) dX12_qGoesOn_356 sh165 vc.1 rfl ?_
    have vc := vc.2
    refine go_iconst (v := 2) dX12_qGoesOn_357 rfl ?_
    refine go_iadd dX12_qGoesOn_358 ?_
    refine go_iast dX12_qGoesOn_359 sh165 vc.1 ?_
    have vc := vc.2
    show gg p l e s m args below meth c G (d + 1) MX12_qGoesOn Q 360 [some (.ref 82), none] [] (sI h2 165 (((h2.1 82 108) - 1) : Int32).toNatClampNeg ((h2.1 165 (((h2.1 82 108) - 1) : Int32).toNatClampNeg) + 2))
    refine go_iconst (v := 1) dX12_qGoesOn_360 rfl ?_
    exact go_zret dX12_qGoesOn_361 rfl (by decide) vc rfl (Nat.le_refl _) (Nat.le_refl _)
  · replace vc := vc.2 q
    refine go_iconst (v := 0) dX12_qGoesOn_339 rfl ?_
    exact go_zret dX12_qGoesOn_340 rfl (by decide) vc rfl (Nat.le_refl _) (Nat.le_refl _)
set_option maxRecDepth 20000 in
theorem wX12_qGoesOn_386 {p : Program} {l : Launch} {e : Env} {s : State} {m : MethodId} {args : Array Value} {below : List Frame} {meth : Method} {c : Code} {G : gG} {d : Nat} {Q : Option Value → gH → Prop} {h : gH} {lk sp : Nat} {cd : Option Nat}  (hR : h.2.2 = gRF lk sp cd) (hlk : lk = 30 ∨ lk = 67) (hsp : sp = 30 ∨ sp = 67)  (vc : Q (some (.int 0)) h) : gg p l e s m args below meth c G (d + 1) MX12_qGoesOn Q 386 [some (.ref 82), none] [] h := by
  refine go_iconst (v := 0) dX12_qGoesOn_386 rfl ?_
  exact go_zret dX12_qGoesOn_387 rfl (by decide) vc rfl (Nat.le_refl _) (Nat.le_refl _)
