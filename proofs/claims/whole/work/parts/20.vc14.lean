set_option maxRecDepth 20000 in
theorem wX12_checked_0 {p : Program} {l : Launch} {e : Env} {s : State} {m : MethodId} {args : Array Value} {below : List Frame} {meth : Method} {c : Code} {G : gG} {d : Nat} {Q : Option Value → gH → Prop} {h : gH} {lk sp : Nat} {cd : Option Nat} {w1 n1 : Nat} {a2 : Int32} (hR : h.2.2 = gRF lk sp cd) (hlk : lk = 30 ∨ lk = 67) (hsp : sp = 30 ∨ sp = 67) (hw1 : gSH[w1]? = some (20, n1)) (vc : gg p l e s m args below meth c G d MX12_checked Q 6 [some (.ref w1), some (.int a2), some (.int 241), some (.int 0)] [] h) : gg p l e s m args below meth c G d MX12_checked Q 0 [some (.ref w1), some (.int a2), none, none] [] h := by
  refine go_sipush (v := 241) dX12_checked_0 rfl ?_
  refine go_istore_n dX12_checked_3 (Nat.le_of_ble_eq_true rfl) ?_
  show gg p l e s m args below meth c G d MX12_checked Q 4 [some (.ref w1), some (.int a2), some (.int 241), none] [] h
  refine go_iconst (v := 0) dX12_checked_4 rfl ?_
  refine go_istore_n dX12_checked_5 (Nat.le_of_ble_eq_true rfl) ?_
  show gg p l e s m args below meth c G d MX12_checked Q 6 [some (.ref w1), some (.int a2), some (.int 241), some (.int 0)] [] h
  exact vc
set_option maxRecDepth 20000 in
theorem wX12_checked_6 {p : Program} {l : Launch} {e : Env} {s : State} {m : MethodId} {args : Array Value} {below : List Frame} {meth : Method} {c : Code} {G : gG} {d : Nat} {Q : Option Value → gH → Prop} {h : gH} {lk sp : Nat} {cd : Option Nat} {w1 n1 : Nat} {x1 : Int32} {x2 : Int32} {x3 : Int32} (hR : h.2.2 = gRF lk sp cd) (hlk : lk = 30 ∨ lk = 67) (hsp : sp = 30 ∨ sp = 67) (hw1 : gSH[w1]? = some (20, n1)) (vc : ((x1 ≤ x3 → Q (some (.int x2)) h) ∧ (¬ x1 ≤ x3 → (vp_in x3 n1 ∧ gg p l e s m args below meth c G d MX12_checked Q 6 [some (.ref w1), some (.int x1), some (.int (((3 * x2) + (h.1 w1 x3.toNatClampNeg)) - ((3 * x2) + (h.1 w1 x3.toNatClampNeg)) / 251 * 251)), some (.int (x3 + 1))] [] h)))) : gg p l e s m args below meth c G d MX12_checked Q 6 [some (.ref w1), some (.int x1), some (.int x2), some (.int x3)] [] h := by
  refine go_iload_n (x := x3) dX12_checked_6 rfl ?_
  refine go_iload_n (x := x1) dX12_checked_7 rfl ?_
  refine go_icmp_ge 29 dX12_checked_8 rfl (fun q => ?_) (fun q => ?_)
  · replace vc := vc.1 q
    refine go_iload_n (x := x2) dX12_checked_29 rfl ?_
    exact go_iret dX12_checked_30 rfl vc rfl (Nat.le_refl _) (Nat.le_refl _)
  · replace vc := vc.2 q
    refine go_iconst (v := 3) dX12_checked_11 rfl ?_
    refine go_iload_n (x := x2) dX12_checked_12 rfl ?_
    refine go_imul dX12_checked_13 ?_
    refine go_aload_n (x := w1) dX12_checked_14 rfl ?_
    refine go_iload_n (x := x3) dX12_checked_15 rfl ?_
    refine go_iald' (v := (h.1 w1 x3.toNatClampNeg)) dX12_checked_16 hw1 vc.1 rfl ?_
    have vc := vc.2
    refine go_iadd dX12_checked_17 ?_
    refine go_sipush (v := 251) dX12_checked_18 rfl ?_
    refine go_irem dX12_checked_21 (by decide) ?_
    refine go_istore_n dX12_checked_22 (Nat.le_of_ble_eq_true rfl) ?_
    show gg p l e s m args below meth c G d MX12_checked Q 23 [some (.ref w1), some (.int x1), some (.int (((3 * x2) + (h.1 w1 x3.toNatClampNeg)) - ((3 * x2) + (h.1 w1 x3.toNatClampNeg)) / 251 * 251)), some (.int x3)] [] h
    refine go_iinc (x := x3) dX12_checked_23 rfl ?_
    show gg p l e s m args below meth c G d MX12_checked Q 26 [some (.ref w1), some (.int x1), some (.int (((3 * x2) + (h.1 w1 x3.toNatClampNeg)) - ((3 * x2) + (h.1 w1 x3.toNatClampNeg)) / 251 * 251)), some (.int (x3 + 1))] [] h
    refine go_goto 6 dX12_checked_26 rfl ?_
    exact vc
set_option maxRecDepth 20000 in
theorem wX12_writes_0 {p : Program} {l : Launch} {e : Env} {s : State} {m : MethodId} {args : Array Value} {below : List Frame} {meth : Method} {c : Code} {G : gG} {d : Nat} {Q : Option Value → gH → Prop} {h : gH} {lk sp : Nat} {cd : Option Nat} {a1 : Int32} (hR : h.2.2 = gRF lk sp cd) (hlk : lk = 30 ∨ lk = 67) (hsp : sp = 30 ∨ sp = 67)  (vc : (vp_in ((h.1 82 116)) 30 ∧ Q none (sI (sI h 167 ((h.1 82 116) : Int32).toNatClampNeg a1) 82 116 ((h.1 82 116) + 1)))) : gg p l e s m args below meth c G d MX12_writes Q 0 [some (.ref 82), some (.int a1)] [] h := by
  refine go_aload_n (x := 82) dX12_writes_0 rfl ?_
  refine go_getR (x := 167) dX12_writes_1 f12_272 sh82 (fun _ _ => rfl) (rf82_115 hR) ?_
  refine go_aload_n (x := 82) dX12_writes_4 rfl ?_
  refine go_getI' (v := (h.1 82 116)) dX12_writes_5 f12_796 sh82 (fun _ _ => rfl) rfl ?_
  refine go_iload_n (x := a1) dX12_writes_8 rfl ?_
  refine go_iast dX12_writes_9 sh167 vc.1 ?_
  have vc := vc.2
  show gg p l e s m args below meth c G d MX12_writes Q 10 [some (.ref 82), some (.int a1)] [] (sI h 167 ((h.1 82 116) : Int32).toNatClampNeg a1)
  refine go_aload_n (x := 82) dX12_writes_10 rfl ?_
  refine go_dup dX12_writes_11 rfl ?_
  refine go_getI' (v := (h.1 82 116)) dX12_writes_12 f12_796 sh82 (fun _ _ => rfl) rfl ?_
  refine go_iconst (v := 1) dX12_writes_15 rfl ?_
  refine go_iadd dX12_writes_16 ?_
  refine go_putI dX12_writes_17 f12_796 sh82 rfl rfl ?_
  exact go_vret dX12_writes_20 rfl vc rfl (Nat.le_refl _) (Nat.le_refl _)
set_option maxRecDepth 20000 in
theorem wX12_image_0 {p : Program} {l : Launch} {e : Env} {s : State} {m : MethodId} {args : Array Value} {below : List Frame} {meth : Method} {c : Code} {G : gG} {d : Nat} {Q : Option Value → gH → Prop} {h : gH} {lk sp : Nat} {cd : Option Nat}  (hR : h.2.2 = gRF lk sp cd) (hlk : lk = 30 ∨ lk = 67) (hsp : sp = 30 ∨ sp = 67)  (vc : gC l G d MX12_writes [.ref 82, .int ((h.1 133 0) / 256)] (sI h 82 116 0) (rV fun h1 => h1.2.2 = ((sI h 82 116 0)).2.2 ∧ gC l G d MX12_writes [.ref 82, .int ((h1.1 133 0) - (h1.1 133 0) / 256 * 256)] h1 (rV fun h2 => h2.2.2 = (h1).2.2 ∧ gC l G d MX12_writes [.ref 82, .int ((h2.1 133 1) / 65536)] h2 (rV fun h3 => h3.2.2 = (h2).2.2 ∧ gC l G d MX12_writes [.ref 82, .int (((h3.1 133 1) / 256) - ((h3.1 133 1) / 256) / 256 * 256)] h3 (rV fun h4 => h4.2.2 = (h3).2.2 ∧ gC l G d MX12_writes [.ref 82, .int ((h4.1 133 1) - (h4.1 133 1) / 256 * 256)] h4 (rV fun h5 => h5.2.2 = (h4).2.2 ∧ gg p l e s m args below meth c G (d + 1) MX12_image Q 81 [some (.ref 82), some (.int 0)] [] h5)))))) : gg p l e s m args below meth c G (d + 1) MX12_image Q 0 [some (.ref 82), none] [] h := by
  refine go_aload_n (x := 82) dX12_image_0 rfl ?_
  refine go_iconst (v := 0) dX12_image_1 rfl ?_
  refine go_putI dX12_image_2 f12_796 sh82 rfl rfl ?_
  refine go_aload_n (x := 82) dX12_image_5 rfl ?_
  refine go_aload_n (x := 82) dX12_image_6 rfl ?_
  refine go_getR (x := 133) dX12_image_7 f12_166 sh82 (fun _ _ => rfl) (rf82_68 hR) ?_
  refine go_iconst (v := 0) dX12_image_10 rfl ?_
  refine go_iald' (v := (h.1 133 0)) dX12_image_11 sh133 (by unfold vp_in; decide) rfl ?_
  refine go_sipush (v := 256) dX12_image_12 rfl ?_
  refine go_idiv dX12_image_15 (by decide) ?_
  refine gvV1 MX12_writes dX12_image_16 lX12_799 kX12_writes vX12_writes sh82 (by decide) rfl (Nat.le_of_ble_eq_true rfl) vc ?_
  intro h1 vc
  obtain ⟨hR1, vc⟩ := vc
  replace hR := hR1.trans hR
  refine go_aload_n (x := 82) dX12_image_19 rfl ?_
  refine go_aload_n (x := 82) dX12_image_20 rfl ?_
  refine go_getR (x := 133) dX12_image_21 f12_166 sh82 (fun _ _ => rfl) (rf82_68 hR) ?_
  refine go_iconst (v := 0) dX12_image_24 rfl ?_
  refine go_iald' (v := (h1.1 133 0)) dX12_image_25 sh133 (by unfold vp_in; decide) rfl ?_
  refine go_sipush (v := 256) dX12_image_26 rfl ?_
  refine go_irem dX12_image_29 (by decide) ?_
  refine gvV1 MX12_writes dX12_image_30 lX12_799 kX12_writes vX12_writes sh82 (by decide) rfl (Nat.le_of_ble_eq_true rfl) vc ?_
  intro h2 vc
  obtain ⟨hR2, vc⟩ := vc
  replace hR := hR2.trans hR
  refine go_aload_n (x := 82) dX12_image_33 rfl ?_
  refine go_aload_n (x := 82) dX12_image_34 rfl ?_
  refine go_getR (x := 133) dX12_image_35 f12_166 sh82 (fun _ _ => rfl) (rf82_68 hR) ?_
  refine go_iconst (v := 1) dX12_image_38 rfl ?_
  refine go_iald' (v := (h2.1 133 1)) dX12_image_39 sh133 (by unfold vp_in; decide) rfl ?_
  refine go_ldcw (v := 65536) dX12_image_40 nX12_802 ?_
  refine go_idiv dX12_image_43 (by decide) ?_
  refine gvV1 MX12_writes dX12_image_44 lX12_799 kX12_writes vX12_writes sh82 (by decide) rfl (Nat.le_of_ble_eq_true rfl) vc ?_
  intro h3 vc
  obtain ⟨hR3, vc⟩ := vc
  replace hR := hR3.trans hR
  refine go_aload_n (x := 82) dX12_image_47 rfl ?_
  refine go_aload_n (x := 82) dX12_image_48 rfl ?_
  refine go_getR (x := 133) dX12_image_49 f12_166 sh82 (fun _ _ => rfl) (rf82_68 hR) ?_
  refine go_iconst (v := 1) dX12_image_52 rfl ?_
  refine go_iald' (v := (h3.1 133 1)) dX12_image_53 sh133 (by unfold vp_in; decide) rfl ?_
  refine go_sipush (v := 256) dX12_image_54 rfl ?_
  refine go_idiv dX12_image_57 (by decide) ?_
  refine go_sipush (v := 256) dX12_image_58 rfl ?_
  refine go_irem dX12_image_61 (by decide) ?_
  refine gvV1 MX12_writes dX12_image_62 lX12_799 kX12_writes vX12_writes sh82 (by decide) rfl (Nat.le_of_ble_eq_true rfl) vc ?_
  intro h4 vc
  obtain ⟨hR4, vc⟩ := vc
  replace hR := hR4.trans hR
  refine go_aload_n (x := 82) dX12_image_65 rfl ?_
  refine go_aload_n (x := 82) dX12_image_66 rfl ?_
  refine go_getR (x := 133) dX12_image_67 f12_166 sh82 (fun _ _ => rfl) (rf82_68 hR) ?_
  refine go_iconst (v := 1) dX12_image_70 rfl ?_
  refine go_iald' (v := (h4.1 133 1)) dX12_image_71 sh133 (by unfold vp_in; decide) rfl ?_
  refine go_sipush (v := 256) dX12_image_72 rfl ?_
  refine go_irem dX12_image_75 (by decide) ?_
  refine gvV1 MX12_writes dX12_image_76 lX12_799 kX12_writes vX12_writes sh82 (by decide) rfl (Nat.le_of_ble_eq_true rfl) vc ?_
  intro h5 vc
  obtain ⟨hR5, vc⟩ := vc
  replace hR := hR5.trans hR
  refine go_iconst (v := 0) dX12_image_79 rfl ?_
  refine go_istore_n dX12_image_80 (Nat.le_of_ble_eq_true rfl) ?_
  show gg p l e s m args below meth c G (d + 1) MX12_image Q 81 [some (.ref 82), some (.int 0)] [] h5
  exact vc
set_option maxRecDepth 20000 in
theorem wX12_image_81 {p : Program} {l : Launch} {e : Env} {s : State} {m : MethodId} {args : Array Value} {below : List Frame} {meth : Method} {c : Code} {G : gG} {d : Nat} {Q : Option Value → gH → Prop} {h : gH} {lk sp : Nat} {cd : Option Nat} {x1 : Int32} (hR : h.2.2 = gRF lk sp cd) (hlk : lk = 30 ∨ lk = 67) (hsp : sp = 30 ∨ sp = 67)  (vc : gC l G d MX12_boatMany [.ref 82] h (rI fun v1 h1 => h1.2.2 = (h).2.2 ∧ ((v1 ≤ x1 → gC l G d MX12_checked [.ref 167, .int (h1.1 82 116)] h1 (rI fun v2 h2 => h2.2.2 = (h1).2.2 ∧ gC l G d MX12_writes [.ref 82, .int v2] h2 (rV fun h3 => h3.2.2 = (h2).2.2 ∧ Q (some (.int (h3.1 82 116))) h3))) ∧ (¬ v1 ≤ x1 → gC l G d MX12_cellOf [.ref 82, .int x1] h1 (rI fun v4 h4 => h4.2.2 = (h1).2.2 ∧ gC l G d MX12_writes [.ref 82, .int v4] h4 (rV fun h5 => h5.2.2 = (h4).2.2 ∧ gC l G d MX12_trustOf [.ref 82, .int x1] h5 (rI fun v6 h6 => h6.2.2 = (h5).2.2 ∧ gC l G d MX12_writes [.ref 82, .int v6] h6 (rV fun h7 => h7.2.2 = (h6).2.2 ∧ gC l G d MX12_balksOf [.ref 82, .int x1] h7 (rI fun v8 h8 => h8.2.2 = (h7).2.2 ∧ gC l G d MX12_writes [.ref 82, .int v8] h8 (rV fun h9 => h9.2.2 = (h8).2.2 ∧ gC l G d MX12_handOf [.ref 82, .int x1] h9 (rI fun v10 h10 => h10.2.2 = (h9).2.2 ∧ gC l G d MX12_writes [.ref 82, .int (v10 + 1)] h10 (rV fun h11 => h11.2.2 = (h10).2.2 ∧ gg p l e s m args below meth c G (d + 1) MX12_image Q 81 [some (.ref 82), some (.int (x1 + 1))] [] h11)))))))))))) : gg p l e s m args below meth c G (d + 1) MX12_image Q 81 [some (.ref 82), some (.int x1)] [] h := by
  refine go_iload_n (x := x1) dX12_image_81 rfl ?_
  refine go_aload_n (x := 82) dX12_image_82 rfl ?_
  refine gvI0 MX12_boatMany dX12_image_83 lX12_483 kX12_boatMany vX12_boatMany sh82 (by decide) rfl (Nat.le_of_ble_eq_true rfl) vc ?_
  intro v1 h1 vc
  obtain ⟨hR1, vc⟩ := vc
  replace hR := hR1.trans hR
  refine go_icmp_ge 133 dX12_image_86 rfl (fun q => ?_) (fun q => ?_)
  · replace vc := vc.1 q
    refine go_aload_n (x := 82) dX12_image_133 rfl ?_
    refine go_aload_n (x := 82) dX12_image_134 rfl ?_
    refine go_getR (x := 167) dX12_image_135 f12_272 sh82 (fun _ _ => rfl) (rf82_115 hR) ?_
    refine go_aload_n (x := 82) dX12_image_138 rfl ?_
    refine go_getI' (v := (h1.1 82 116)) dX12_image_139 f12_796 sh82 (fun _ _ => rfl) rfl ?_
    refine gsI2 MX12_checked dX12_image_142 lX12_803 kX12_checked sX12_checked (Nat.le_of_ble_eq_true rfl) vc ?_
    intro v2 h2 vc
    obtain ⟨hR2, vc⟩ := vc
    replace hR := hR2.trans hR
    refine gvV1 MX12_writes dX12_image_145 lX12_799 kX12_writes vX12_writes sh82 (by decide) rfl (Nat.le_of_ble_eq_true rfl) vc ?_
    intro h3 vc
    obtain ⟨hR3, vc⟩ := vc
    replace hR := hR3.trans hR
    refine go_aload_n (x := 82) dX12_image_148 rfl ?_
    refine go_getI' (v := (h3.1 82 116)) dX12_image_149 f12_796 sh82 (fun _ _ => rfl) rfl ?_
    exact go_iret dX12_image_152 rfl vc rfl (Nat.le_refl _) (Nat.le_refl _)
  · replace vc := vc.2 q
    refine go_aload_n (x := 82) dX12_image_89 rfl ?_
    refine go_aload_n (x := 82) dX12_image_90 rfl ?_
    refine go_iload_n (x := x1) dX12_image_91 rfl ?_
    refine gvI1 MX12_cellOf dX12_image_92 lX12_504 kX12_cellOf vX12_cellOf sh82 (by decide) rfl (Nat.le_of_ble_eq_true rfl) vc ?_
    intro v4 h4 vc
    obtain ⟨hR4, vc⟩ := vc
    replace hR := hR4.trans hR
    refine gvV1 MX12_writes dX12_image_95 lX12_799 kX12_writes vX12_writes sh82 (by decide) rfl (Nat.le_of_ble_eq_true rfl) vc ?_
    intro h5 vc
    obtain ⟨hR5, vc⟩ := vc
    replace hR := hR5.trans hR
    refine go_aload_n (x := 82) dX12_image_98 rfl ?_
    refine go_aload_n (x := 82) dX12_image_99 rfl ?_
    refine go_iload_n (x := x1) dX12_image_100 rfl ?_
    refine gvI1 MX12_trustOf dX12_image_101 lX12_522 kX12_trustOf vX12_trustOf sh82 (by decide) rfl (Nat.le_of_ble_eq_true rfl) vc ?_
    intro v6 h6 vc
    obtain ⟨hR6, vc⟩ := vc
    replace hR := hR6.trans hR
    refine gvV1 MX12_writes dX12_image_104 lX12_799 kX12_writes vX12_writes sh82 (by decide) rfl (Nat.le_of_ble_eq_true rfl) vc ?_
    intro h7 vc
    obtain ⟨hR7, vc⟩ := vc
    replace hR := hR7.trans hR
    refine go_aload_n (x := 82) dX12_image_107 rfl ?_
    refine go_aload_n (x := 82) dX12_image_108 rfl ?_
    refine go_iload_n (x := x1) dX12_image_109 rfl ?_
    refine gvI1 MX12_balksOf dX12_image_110 lX12_516 kX12_balksOf vX12_balksOf sh82 (by decide) rfl (Nat.le_of_ble_eq_true rfl) vc ?_
    intro v8 h8 vc
    obtain ⟨hR8, vc⟩ := vc
    replace hR := hR8.trans hR
    refine gvV1 MX12_writes dX12_image_113 lX12_799 kX12_writes vX12_writes sh82 (by decide) rfl (Nat.le_of_ble_eq_true rfl) vc ?_
    intro h9 vc
    obtain ⟨hR9, vc⟩ := vc
    replace hR := hR9.trans hR
    refine go_aload_n (x := 82) dX12_image_116 rfl ?_
    refine go_aload_n (x := 82) dX12_image_117 rfl ?_
    refine go_iload_n (x := x1) dX12_image_118 rfl ?_
    refine gvI1 MX12_handOf dX12_image_119 lX12_519 kX12_handOf vX12_handOf sh82 (by decide) rfl (Nat.le_of_ble_eq_true rfl) vc ?_
    intro v10 h10 vc
    obtain ⟨hR10, vc⟩ := vc
    replace hR := hR10.trans hR
    refine go_iconst (v := 1) dX12_image_122 rfl ?_
    refine go_iadd dX12_image_123 ?_
    refine gvV1 MX12_writes dX12_image_124 lX12_799 kX12_writes vX12_writes sh82 (by decide) rfl (Nat.le_of_ble_eq_true rfl) vc ?_
    intro h11 vc
    obtain ⟨hR11, vc⟩ := vc
    replace hR := hR11.trans hR
    refine go_iinc (x := x1) dX12_image_127 rfl ?_
    show gg p l e s m args below meth c G (d + 1) MX12_image Q 130 [some (.ref 82), some (.int (x1 + 1))] [] h11
    refine go_goto 81 dX12_image_130 rfl ?_
    exact vc
set_option maxRecDepth 20000 in
theorem wX12_octet_0 {p : Program} {l : Launch} {e : Env} {s : State} {m : MethodId} {args : Array Value} {below : List Frame} {meth : Method} {c : Code} {G : gG} {d : Nat} {Q : Option Value → gH → Prop} {h : gH} {lk sp : Nat} {cd : Option Nat} {a1 : Int32} (hR : h.2.2 = gRF lk sp cd) (hlk : lk = 30 ∨ lk = 67) (hsp : sp = 30 ∨ sp = 67)  (vc : ((a1 < 0 → Q (some (.int (-1))) h) ∧ (¬ a1 < 0 → (((h.1 82 116) ≤ a1 → Q (some (.int (-1))) h) ∧ (¬ (h.1 82 116) ≤ a1 → (vp_in a1 30 ∧ Q (some (.int (h.1 167 a1.toNatClampNeg))) h)))))) : gg p l e s m args below meth c G d MX12_octet Q 0 [some (.ref 82), some (.int a1)] [] h := by
  refine go_iload_n (x := a1) dX12_octet_0 rfl ?_
  refine go_if_lt 21 dX12_octet_1 rfl (fun q => ?_) (fun q => ?_)
  · replace vc := vc.1 q
    refine go_iconst (v := (-1)) dX12_octet_21 rfl ?_
    exact go_iret dX12_octet_22 rfl vc rfl (Nat.le_refl _) (Nat.le_refl _)
  · replace vc := vc.2 q
    refine go_iload_n (x := a1) dX12_octet_4 rfl ?_
    refine go_aload_n (x := 82) dX12_octet_5 rfl ?_
    refine go_getI' (v := (h.1 82 116)) dX12_octet_6 f12_796 sh82 (fun _ _ => rfl) rfl ?_
    refine go_icmp_ge 21 dX12_octet_9 rfl (fun q => ?_) (fun q => ?_)
    · replace vc := vc.1 q
      refine go_iconst (v := (-1)) dX12_octet_21 rfl ?_
      exact go_iret dX12_octet_22 rfl vc rfl (Nat.le_refl _) (Nat.le_refl _)
    · replace vc := vc.2 q
      refine go_aload_n (x := 82) dX12_octet_12 rfl ?_
      refine go_getR (x := 167) dX12_octet_13 f12_272 sh82 (fun _ _ => rfl) (rf82_115 hR) ?_
      refine go_iload_n (x := a1) dX12_octet_16 rfl ?_
      refine go_iald' (v := (h.1 167 a1.toNatClampNeg)) dX12_octet_17 sh167 vc.1 rfl ?_
      have vc := vc.2
      refine go_goto 22 dX12_octet_18 rfl ?_
      exact go_iret dX12_octet_22 rfl vc rfl (Nat.le_refl _) (Nat.le_refl _)
set_option maxRecDepth 20000 in
theorem wX12_coinsTold_0 {p : Program} {l : Launch} {e : Env} {s : State} {m : MethodId} {args : Array Value} {below : List Frame} {meth : Method} {c : Code} {G : gG} {d : Nat} {Q : Option Value → gH → Prop} {h : gH} {lk sp : Nat} {cd : Option Nat}  (hR : h.2.2 = gRF lk sp cd) (hlk : lk = 30 ∨ lk = 67) (hsp : sp = 30 ∨ sp = 67)  (vc : Q (some (.int (((65536 * (h.1 83 2)) + (256 * (h.1 83 3))) + (h.1 83 4)))) h) : gg p l e s m args below meth c G d MX12_coinsTold Q 0 [some (.ref 82)] [] h := by
  refine go_ldcw (v := 65536) dX12_coinsTold_0 nX12_802 ?_
  refine go_aload_n (x := 82) dX12_coinsTold_3 rfl ?_
  refine go_getR (x := 83) dX12_coinsTold_4 f12_7 sh82 (fun _ _ => rfl) (rf82_0 hR) ?_
  refine go_iconst (v := 2) dX12_coinsTold_7 rfl ?_
  refine go_iald' (v := (h.1 83 2)) dX12_coinsTold_8 sh83 (by unfold vp_in; decide) rfl ?_
  refine go_imul dX12_coinsTold_9 ?_
  refine go_sipush (v := 256) dX12_coinsTold_10 rfl ?_
  refine go_aload_n (x := 82) dX12_coinsTold_13 rfl ?_
  refine go_getR (x := 83) dX12_coinsTold_14 f12_7 sh82 (fun _ _ => rfl) (rf82_0 hR) ?_
  refine go_iconst (v := 3) dX12_coinsTold_17 rfl ?_
  refine go_iald' (v := (h.1 83 3)) dX12_coinsTold_18 sh83 (by unfold vp_in; decide) rfl ?_
  refine go_imul dX12_coinsTold_19 ?_
  refine go_iadd dX12_coinsTold_20 ?_
  refine go_aload_n (x := 82) dX12_coinsTold_21 rfl ?_
  refine go_getR (x := 83) dX12_coinsTold_22 f12_7 sh82 (fun _ _ => rfl) (rf82_0 hR) ?_
  refine go_iconst (v := 4) dX12_coinsTold_25 rfl ?_
  refine go_iald' (v := (h.1 83 4)) dX12_coinsTold_26 sh83 (by unfold vp_in; decide) rfl ?_
  refine go_iadd dX12_coinsTold_27 ?_
  exact go_iret dX12_coinsTold_28 rfl vc rfl (Nat.le_refl _) (Nat.le_refl _)
set_option maxRecDepth 20000 in
theorem wX12_isBoatTold_0 {p : Program} {l : Launch} {e : Env} {s : State} {m : MethodId} {args : Array Value} {below : List Frame} {meth : Method} {c : Code} {G : gG} {d : Nat} {Q : Option Value → gH → Prop} {h : gH} {lk sp : Nat} {cd : Option Nat} {a1 : Int32} (hR : h.2.2 = gRF lk sp cd) (hlk : lk = 30 ∨ lk = 67) (hsp : sp = 30 ∨ sp = 67)  (vc : (vp_in ((5 + (4 * a1))) 1600 ∧ gC l G d MX12_isWater [.ref 82, .int (h.1 83 ((5 + (4 * a1)) : Int32).toNatClampNeg)] h (rI fun v1 h1 => h1.2.2 = (h).2.2 ∧ ((v1 = 0 → Q (some (.int 0)) h1) ∧ (¬ v1 = 0 → (vp_in (((5 + (4 * a1)) + 1)) 1600 ∧ ((99 < (h1.1 83 (((5 + (4 * a1)) + 1) : Int32).toNatClampNeg) → Q (some (.int 0)) h1) ∧ (¬ 99 < (h1.1 83 (((5 + (4 * a1)) + 1) : Int32).toNatClampNeg) → (vp_in (((5 + (4 * a1)) + 2)) 1600 ∧ ((99 < (h1.1 83 (((5 + (4 * a1)) + 2) : Int32).toNatClampNeg) → Q (some (.int 0)) h1) ∧ (¬ 99 < (h1.1 83 (((5 + (4 * a1)) + 2) : Int32).toNatClampNeg) → (vp_in (((5 + (4 * a1)) + 3)) 1600 ∧ gC l G d MX12_handMany [.ref 82] h1 (rI fun v2 h2 => h2.2.2 = (h1).2.2 ∧ (((h1.1 83 (((5 + (4 * a1)) + 3) : Int32).toNatClampNeg) ≤ v2 → gg p l e s m args below meth c G (d + 1) MX12_isBoatTold Q 64 [some (.ref 82), some (.int a1), some (.int (5 + (4 * a1))), some (.int 0)] [] h2) ∧ (¬ (h1.1 83 (((5 + (4 * a1)) + 3) : Int32).toNatClampNeg) ≤ v2 → Q (some (.int 0)) h2))))))))))))))) : gg p l e s m args below meth c G (d + 1) MX12_isBoatTold Q 0 [some (.ref 82), some (.int a1), none, none] [] h := by
  refine go_iconst (v := 5) dX12_isBoatTold_0 rfl ?_
  refine go_iconst (v := 4) dX12_isBoatTold_1 rfl ?_
  refine go_iload_n (x := a1) dX12_isBoatTold_2 rfl ?_
  refine go_imul dX12_isBoatTold_3 ?_
  refine go_iadd dX12_isBoatTold_4 ?_
  refine go_istore_n dX12_isBoatTold_5 (Nat.le_of_ble_eq_true rfl) ?_
  show gg p l e s m args below meth c G (d + 1) MX12_isBoatTold Q 6 [some (.ref 82), some (.int a1), some (.int (5 + (4 * a1))), none] [] h
  refine go_aload_n (x := 82) dX12_isBoatTold_6 rfl ?_
  refine go_aload_n (x := 82) dX12_isBoatTold_7 rfl ?_
  refine go_getR (x := 83) dX12_isBoatTold_8 f12_7 sh82 (fun _ _ => rfl) (rf82_0 hR) ?_
  refine go_iload_n (x := (5 + (4 * a1))) dX12_isBoatTold_11 rfl ?_
  refine go_iald' (v := (h.1 83 ((5 + (4 * a1)) : Int32).toNatClampNeg)) dX12_isBoatTold_12 sh83 vc.1 rfl ?_
  have vc := vc.2
  refine gvI1 MX12_isWater dX12_isBoatTold_13 lX12_556 kX12_isWater vX12_isWater sh82 (by decide) rfl (Nat.le_of_ble_eq_true rfl) vc ?_
  intro v1 h1 vc
  obtain ⟨hR1, vc⟩ := vc
  replace hR := hR1.trans hR
  refine go_if_eq 60 dX12_isBoatTold_16 rfl (fun q => ?_) (fun q => ?_)
  · replace vc := vc.1 q
    refine go_iconst (v := 0) dX12_isBoatTold_60 rfl ?_
    exact go_zret dX12_isBoatTold_61 rfl (by decide) vc rfl (Nat.le_refl _) (Nat.le_refl _)
  · replace vc := vc.2 q
    refine go_aload_n (x := 82) dX12_isBoatTold_19 rfl ?_
    refine go_getR (x := 83) dX12_isBoatTold_20 f12_7 sh82 (fun _ _ => rfl) (rf82_0 hR) ?_
    refine go_iload_n (x := (5 + (4 * a1))) dX12_isBoatTold_23 rfl ?_
    refine go_iconst (v := 1) dX12_isBoatTold_24 rfl ?_
    refine go_iadd dX12_isBoatTold_25 ?_
    refine go_iald' (v := (h1.1 83 (((5 + (4 * a1)) + 1) : Int32).toNatClampNeg)) dX12_isBoatTold_26 sh83 vc.1 rfl ?_
    have vc := vc.2
    refine go_bipush (v := 99) dX12_isBoatTold_27 rfl ?_
    refine go_icmp_gt 60 dX12_isBoatTold_29 rfl (fun q => ?_) (fun q => ?_)
    · replace vc := vc.1 q
      refine go_iconst (v := 0) dX12_isBoatTold_60 rfl ?_
      exact go_zret dX12_isBoatTold_61 rfl (by decide) vc rfl (Nat.le_refl _) (Nat.le_refl _)
    · replace vc := vc.2 q
      refine go_aload_n (x := 82) dX12_isBoatTold_32 rfl ?_
      refine go_getR (x := 83) dX12_isBoatTold_33 f12_7 sh82 (fun _ _ => rfl) (rf82_0 hR) ?_
      refine go_iload_n (x := (5 + (4 * a1))) dX12_isBoatTold_36 rfl ?_
      refine go_iconst (v := 2) dX12_isBoatTold_37 rfl ?_
      refine go_iadd dX12_isBoatTold_38 ?_
      refine go_iald' (v := (h1.1 83 (((5 + (4 * a1)) + 2) : Int32).toNatClampNeg)) dX12_isBoatTold_39 sh83 vc.1 rfl ?_
      have vc := vc.2
      refine go_bipush (v := 99) dX12_isBoatTold_40 rfl ?_
      refine go_icmp_gt 60 dX12_isBoatTold_42 rfl (fun q => ?_) (fun q => ?_)
      · replace vc := vc.1 q
        refine go_iconst (v := 0) dX12_isBoatTold_60 rfl ?_
        exact go_zret dX12_isBoatTold_61 rfl (by decide) vc rfl (Nat.le_refl _) (Nat.le_refl _)
      · replace vc := vc.2 q
        refine go_aload_n (x := 82) dX12_isBoatTold_45 rfl ?_
        refine go_getR (x := 83) dX12_isBoatTold_46 f12_7 sh82 (fun _ _ => rfl) (rf82_0 hR) ?_
        refine go_iload_n (x := (5 + (4 * a1))) dX12_isBoatTold_49 rfl ?_
        refine go_iconst (v := 3) dX12_isBoatTold_50 rfl ?_
        refine go_iadd dX12_isBoatTold_51 ?_
        refine go_iald' (v := (h1.1 83 (((5 + (4 * a1)) + 3) : Int32).toNatClampNeg)) dX12_isBoatTold_52 sh83 vc.1 rfl ?_
        have vc := vc.2
        refine go_aload_n (x := 82) dX12_isBoatTold_53 rfl ?_
        refine gvI0 MX12_handMany dX12_isBoatTold_54 lX12_572 kX12_handMany vX12_handMany sh82 (by decide) rfl (Nat.le_of_ble_eq_true rfl) vc ?_
        intro v2 h2 vc
        obtain ⟨hR2, vc⟩ := vc
        replace hR := hR2.trans hR
        refine go_icmp_le 62 dX12_isBoatTold_57 rfl (fun q => ?_) (fun q => ?_)
        · replace vc := vc.1 q
          refine go_iconst (v := 0) dX12_isBoatTold_62 rfl ?_
          refine go_istore_n dX12_isBoatTold_63 (Nat.le_of_ble_eq_true rfl) ?_
          show gg p l e s m args below meth c G (d + 1) MX12_isBoatTold Q 64 [some (.ref 82), some (.int a1), some (.int (5 + (4 * a1))), some (.int 0)] [] h2
          exact vc
        · replace vc := vc.2 q
          refine go_iconst (v := 0) dX12_isBoatTold_60 rfl ?_
          exact go_zret dX12_isBoatTold_61 rfl (by decide) vc rfl (Nat.le_refl _) (Nat.le_refl _)
set_option maxRecDepth 20000 in
theorem wX12_isBoatTold_64 {p : Program} {l : Launch} {e : Env} {s : State} {m : MethodId} {args : Array Value} {below : List Frame} {meth : Method} {c : Code} {G : gG} {d : Nat} {Q : Option Value → gH → Prop} {h : gH} {lk sp : Nat} {cd : Option Nat} {x1 : Int32} {x2 : Int32} {x3 : Int32} (hR : h.2.2 = gRF lk sp cd) (hlk : lk = 30 ∨ lk = 67) (hsp : sp = 30 ∨ sp = 67)  (vc : ((x1 ≤ x3 → Q (some (.int 1)) h) ∧ (¬ x1 ≤ x3 → (vp_in ((x2 + 3)) 1600 ∧ (((h.1 83 ((x2 + 3) : Int32).toNatClampNeg) ≤ 0 → gg p l e s m args below meth c G (d + 1) MX12_isBoatTold Q 64 [some (.ref 82), some (.int x1), some (.int x2), some (.int (x3 + 1))] [] h) ∧ (¬ (h.1 83 ((x2 + 3) : Int32).toNatClampNeg) ≤ 0 → (vp_in ((8 + (4 * x3))) 1600 ∧ (vp_in ((x2 + 3)) 1600 ∧ ((¬ (h.1 83 ((8 + (4 * x3)) : Int32).toNatClampNeg) = (h.1 83 ((x2 + 3) : Int32).toNatClampNeg) → gg p l e s m args below meth c G (d + 1) MX12_isBoatTold Q 64 [some (.ref 82), some (.int x1), some (.int x2), some (.int (x3 + 1))] [] h) ∧ ((h.1 83 ((8 + (4 * x3)) : Int32).toNatClampNeg) = (h.1 83 ((x2 + 3) : Int32).toNatClampNeg) → Q (some (.int 0)) h)))))))))) : gg p l e s m args below meth c G (d + 1) MX12_isBoatTold Q 64 [some (.ref 82), some (.int x1), some (.int x2), some (.int x3)] [] h := by
  refine go_iload_n (x := x3) dX12_isBoatTold_64 rfl ?_
  refine go_iload_n (x := x1) dX12_isBoatTold_65 rfl ?_
  refine go_icmp_ge 110 dX12_isBoatTold_66 rfl (fun q => ?_) (fun q => ?_)
  · replace vc := vc.1 q
    refine go_iconst (v := 1) dX12_isBoatTold_110 rfl ?_
    exact go_zret dX12_isBoatTold_111 rfl (by decide) vc rfl (Nat.le_refl _) (Nat.le_refl _)
  · replace vc := vc.2 q
    refine go_aload_n (x := 82) dX12_isBoatTold_69 rfl ?_
    refine go_getR (x := 83) dX12_isBoatTold_70 f12_7 sh82 (fun _ _ => rfl) (rf82_0 hR) ?_
    refine go_iload_n (x := x2) dX12_isBoatTold_73 rfl ?_
    refine go_iconst (v := 3) dX12_isBoatTold_74 rfl ?_
    refine go_iadd dX12_isBoatTold_75 ?_
    refine go_iald' (v := (h.1 83 ((x2 + 3) : Int32).toNatClampNeg)) dX12_isBoatTold_76 sh83 vc.1 rfl ?_
    have vc := vc.2
    refine go_if_le 104 dX12_isBoatTold_77 rfl (fun q => ?_) (fun q => ?_)
    · replace vc := vc.1 q
      refine go_iinc (x := x3) dX12_isBoatTold_104 rfl ?_
      show gg p l e s m args below meth c G (d + 1) MX12_isBoatTold Q 107 [some (.ref 82), some (.int x1), some (.int x2), some (.int (x3 + 1))] [] h
      refine go_goto 64 dX12_isBoatTold_107 rfl ?_
      exact vc
    · replace vc := vc.2 q
      refine go_aload_n (x := 82) dX12_isBoatTold_80 rfl ?_
      refine go_getR (x := 83) dX12_isBoatTold_81 f12_7 sh82 (fun _ _ => rfl) (rf82_0 hR) ?_
      refine go_bipush (v := 8) dX12_isBoatTold_84 rfl ?_
      refine go_iconst (v := 4) dX12_isBoatTold_86 rfl ?_
      refine go_iload_n (x := x3) dX12_isBoatTold_87 rfl ?_
      refine go_imul dX12_isBoatTold_88 ?_
      refine go_iadd dX12_isBoatTold_89 ?_
      refine go_iald' (v := (h.1 83 ((8 + (4 * x3)) : Int32).toNatClampNeg)) dX12_isBoatTold_90 sh83 vc.1 rfl ?_
      have vc := vc.2
      refine go_aload_n (x := 82) dX12_isBoatTold_91 rfl ?_
      refine go_getR (x := 83) dX12_isBoatTold_92 f12_7 sh82 (fun _ _ => rfl) (rf82_0 hR) ?_
      refine go_iload_n (x := x2) dX12_isBoatTold_95 rfl ?_
      refine go_iconst (v := 3) dX12_isBoatTold_96 rfl ?_
      refine go_iadd dX12_isBoatTold_97 ?_
      refine go_iald' (v := (h.1 83 ((x2 + 3) : Int32).toNatClampNeg)) dX12_isBoatTold_98 sh83 vc.1 rfl ?_
      have vc := vc.2
      refine go_icmp_ne 104 dX12_isBoatTold_99 rfl (fun q => ?_) (fun q => ?_)
      · replace vc := vc.1 q
        refine go_iinc (x := x3) dX12_isBoatTold_104 rfl ?_
        show gg p l e s m args below meth c G (d + 1) MX12_isBoatTold Q 107 [some (.ref 82), some (.int x1), some (.int x2), some (.int (x3 + 1))] [] h
        refine go_goto 64 dX12_isBoatTold_107 rfl ?_
        exact vc
      · replace vc := vc.2 q
        refine go_iconst (v := 0) dX12_isBoatTold_102 rfl ?_
        exact go_zret dX12_isBoatTold_103 rfl (by decide) vc rfl (Nat.le_refl _) (Nat.le_refl _)
set_option maxRecDepth 20000 in
theorem wX12_isTold_0 {p : Program} {l : Launch} {e : Env} {s : State} {m : MethodId} {args : Array Value} {below : List Frame} {meth : Method} {c : Code} {G : gG} {d : Nat} {Q : Option Value → gH → Prop} {h : gH} {lk sp : Nat} {cd : Option Nat} {a1 : Int32} (hR : h.2.2 = gRF lk sp cd) (hlk : lk = 30 ∨ lk = 67) (hsp : sp = 30 ∨ sp = 67)  (vc : (((h.1 82 58) = 0 → Q (some (.int 0)) h) ∧ (¬ (h.1 82 58) = 0 → gC l G d MX12_boatMany [.ref 82] h (rI fun v1 h1 => h1.2.2 = (h).2.2 ∧ ((¬ a1 = (6 + (4 * v1)) → Q (some (.int 0)) h1) ∧ (a1 = (6 + (4 * v1)) → (vp_in ((a1 - 1)) 1600 ∧ gC l G d MX12_checked [.ref 83, .int (a1 - 1)] h1 (rI fun v2 h2 => h2.2.2 = (h1).2.2 ∧ ((¬ (h1.1 83 ((a1 - 1) : Int32).toNatClampNeg) = v2 → Q (some (.int 0)) h2) ∧ ((h1.1 83 ((a1 - 1) : Int32).toNatClampNeg) = v2 → ((999 < ((256 * (h2.1 83 0)) + (h2.1 83 1)) → Q (some (.int 0)) h2) ∧ (¬ 999 < ((256 * (h2.1 83 0)) + (h2.1 83 1)) → gC l G d MX12_coinsTold [.ref 82] h2 (rI fun v3 h3 => h3.2.2 = (h2).2.2 ∧ ((v3 ≤ 999999 → gg p l e s m args below meth c G (d + 1) MX12_isTold Q 78 [some (.ref 82), some (.int a1), some (.int 0)] [] h3) ∧ (¬ v3 ≤ 999999 → Q (some (.int 0)) h3))))))))))))))) : gg p l e s m args below meth c G (d + 1) MX12_isTold Q 0 [some (.ref 82), some (.int a1), none] [] h := by
  refine go_aload_n (x := 82) dX12_isTold_0 rfl ?_
  refine go_getI' (v := (h.1 82 58)) dX12_isTold_1 f12_422 sh82 (fun _ _ => rfl) rfl ?_
  refine go_if_eq 74 dX12_isTold_4 rfl (fun q => ?_) (fun q => ?_)
  · replace vc := vc.1 q
    refine go_iconst (v := 0) dX12_isTold_74 rfl ?_
    exact go_zret dX12_isTold_75 rfl (by decide) vc rfl (Nat.le_refl _) (Nat.le_refl _)
  · replace vc := vc.2 q
    refine go_iload_n (x := a1) dX12_isTold_7 rfl ?_
    refine go_bipush (v := 6) dX12_isTold_8 rfl ?_
    refine go_iconst (v := 4) dX12_isTold_10 rfl ?_
    refine go_aload_n (x := 82) dX12_isTold_11 rfl ?_
    refine gvI0 MX12_boatMany dX12_isTold_12 lX12_483 kX12_boatMany vX12_boatMany sh82 (by decide) rfl (Nat.le_of_ble_eq_true rfl) vc ?_
    intro v1 h1 vc
    obtain ⟨hR1, vc⟩ := vc
    replace hR := hR1.trans hR
    refine go_imul dX12_isTold_15 ?_
    refine go_iadd dX12_isTold_16 ?_
    refine go_icmp_ne 74 dX12_isTold_17 rfl (fun q => ?_) (fun q => ?_)
    · replace vc := vc.1 q
      refine go_iconst (v := 0) dX12_isTold_74 rfl ?_
      exact go_zret dX12_isTold_75 rfl (by decide) vc rfl (Nat.le_refl _) (Nat.le_refl _)
    · replace vc := vc.2 q
      refine go_aload_n (x := 82) dX12_isTold_20 rfl ?_
      refine go_getR (x := 83) dX12_isTold_21 f12_7 sh82 (fun _ _ => rfl) (rf82_0 hR) ?_
      refine go_iload_n (x := a1) dX12_isTold_24 rfl ?_
      refine go_iconst (v := 1) dX12_isTold_25 rfl ?_
      refine go_isub dX12_isTold_26 ?_
      refine go_iald' (v := (h1.1 83 ((a1 - 1) : Int32).toNatClampNeg)) dX12_isTold_27 sh83 vc.1 rfl ?_
      have vc := vc.2
      refine go_aload_n (x := 82) dX12_isTold_28 rfl ?_
      refine go_getR (x := 83) dX12_isTold_29 f12_7 sh82 (fun _ _ => rfl) (rf82_0 hR) ?_
      refine go_iload_n (x := a1) dX12_isTold_32 rfl ?_
      refine go_iconst (v := 1) dX12_isTold_33 rfl ?_
      refine go_isub dX12_isTold_34 ?_
      refine gsI2 MX12_checked dX12_isTold_35 lX12_803 kX12_checked sX12_checked (Nat.le_of_ble_eq_true rfl) vc ?_
      intro v2 h2 vc
      obtain ⟨hR2, vc⟩ := vc
      replace hR := hR2.trans hR
      refine go_icmp_ne 74 dX12_isTold_38 rfl (fun q => ?_) (fun q => ?_)
      · replace vc := vc.1 q
        refine go_iconst (v := 0) dX12_isTold_74 rfl ?_
        exact go_zret dX12_isTold_75 rfl (by decide) vc rfl (Nat.le_refl _) (Nat.le_refl _)
      · replace vc := vc.2 q
        refine go_sipush (v := 256) dX12_isTold_41 rfl ?_
        refine go_aload_n (x := 82) dX12_isTold_44 rfl ?_
        refine go_getR (x := 83) dX12_isTold_45 f12_7 sh82 (fun _ _ => rfl) (rf82_0 hR) ?_
        refine go_iconst (v := 0) dX12_isTold_48 rfl ?_
        refine go_iald' (v := (h2.1 83 0)) dX12_isTold_49 sh83 (by unfold vp_in; decide) rfl ?_
        refine go_imul dX12_isTold_50 ?_
        refine go_aload_n (x := 82) dX12_isTold_51 rfl ?_
        refine go_getR (x := 83) dX12_isTold_52 f12_7 sh82 (fun _ _ => rfl) (rf82_0 hR) ?_
        refine go_iconst (v := 1) dX12_isTold_55 rfl ?_
        refine go_iald' (v := (h2.1 83 1)) dX12_isTold_56 sh83 (by unfold vp_in; decide) rfl ?_
        refine go_iadd dX12_isTold_57 ?_
        refine go_sipush (v := 999) dX12_isTold_58 rfl ?_
        refine go_icmp_gt 74 dX12_isTold_61 rfl (fun q => ?_) (fun q => ?_)
        · replace vc := vc.1 q
          refine go_iconst (v := 0) dX12_isTold_74 rfl ?_
          exact go_zret dX12_isTold_75 rfl (by decide) vc rfl (Nat.le_refl _) (Nat.le_refl _)
        · replace vc := vc.2 q
          refine go_aload_n (x := 82) dX12_isTold_64 rfl ?_
          refine gvI0 MX12_coinsTold dX12_isTold_65 lX12_807 kX12_coinsTold vX12_coinsTold sh82 (by decide) rfl (Nat.le_of_ble_eq_true rfl) vc ?_
          intro v3 h3 vc
          obtain ⟨hR3, vc⟩ := vc
          replace hR := hR3.trans hR
          refine go_ldcw (v := 999999) dX12_isTold_68 nX12_664 ?_
          refine go_icmp_le 76 dX12_isTold_71 rfl (fun q => ?_) (fun q => ?_)
          · replace vc := vc.1 q
            refine go_iconst (v := 0) dX12_isTold_76 rfl ?_
            refine go_istore_n dX12_isTold_77 (Nat.le_of_ble_eq_true rfl) ?_
            show gg p l e s m args below meth c G (d + 1) MX12_isTold Q 78 [some (.ref 82), some (.int a1), some (.int 0)] [] h3
            exact vc
          · replace vc := vc.2 q
            refine go_iconst (v := 0) dX12_isTold_74 rfl ?_
            exact go_zret dX12_isTold_75 rfl (by decide) vc rfl (Nat.le_refl _) (Nat.le_refl _)
set_option maxRecDepth 20000 in
theorem wX12_isTold_78 {p : Program} {l : Launch} {e : Env} {s : State} {m : MethodId} {args : Array Value} {below : List Frame} {meth : Method} {c : Code} {G : gG} {d : Nat} {Q : Option Value → gH → Prop} {h : gH} {lk sp : Nat} {cd : Option Nat} {x1 : Int32} {x2 : Int32} (hR : h.2.2 = gRF lk sp cd) (hlk : lk = 30 ∨ lk = 67) (hsp : sp = 30 ∨ sp = 67)  (vc : gC l G d MX12_boatMany [.ref 82] h (rI fun v1 h1 => h1.2.2 = (h).2.2 ∧ ((v1 ≤ x2 → Q (some (.int 1)) h1) ∧ (¬ v1 ≤ x2 → gC l G d MX12_isBoatTold [.ref 82, .int x2] h1 (rI fun v2 h2 => h2.2.2 = (h1).2.2 ∧ ((¬ v2 = 0 → gg p l e s m args below meth c G (d + 1) MX12_isTold Q 78 [some (.ref 82), some (.int x1), some (.int (x2 + 1))] [] h2) ∧ (v2 = 0 → Q (some (.int 0)) h2))))))) : gg p l e s m args below meth c G (d + 1) MX12_isTold Q 78 [some (.ref 82), some (.int x1), some (.int x2)] [] h := by
  refine go_iload_n (x := x2) dX12_isTold_78 rfl ?_
  refine go_aload_n (x := 82) dX12_isTold_79 rfl ?_
  refine gvI0 MX12_boatMany dX12_isTold_80 lX12_483 kX12_boatMany vX12_boatMany sh82 (by decide) rfl (Nat.le_of_ble_eq_true rfl) vc ?_
  intro v1 h1 vc
  obtain ⟨hR1, vc⟩ := vc
  replace hR := hR1.trans hR
  refine go_icmp_ge 102 dX12_isTold_83 rfl (fun q => ?_) (fun q => ?_)
  · replace vc := vc.1 q
    refine go_iconst (v := 1) dX12_isTold_102 rfl ?_
    exact go_zret dX12_isTold_103 rfl (by decide) vc rfl (Nat.le_refl _) (Nat.le_refl _)
  · replace vc := vc.2 q
    refine go_aload_n (x := 82) dX12_isTold_86 rfl ?_
    refine go_iload_n (x := x2) dX12_isTold_87 rfl ?_
    refine gvI1 MX12_isBoatTold dX12_isTold_88 lX12_810 kX12_isBoatTold vX12_isBoatTold sh82 (by decide) rfl (Nat.le_of_ble_eq_true rfl) vc ?_
    intro v2 h2 vc
    obtain ⟨hR2, vc⟩ := vc
    replace hR := hR2.trans hR
    refine go_if_ne 96 dX12_isTold_91 rfl (fun q => ?_) (fun q => ?_)
    · replace vc := vc.1 q
      refine go_iinc (x := x2) dX12_isTold_96 rfl ?_
      show gg p l e s m args below meth c G (d + 1) MX12_isTold Q 99 [some (.ref 82), some (.int x1), some (.int (x2 + 1))] [] h2
      refine go_goto 78 dX12_isTold_99 rfl ?_
      exact vc
    · replace vc := vc.2 q
      refine go_iconst (v := 0) dX12_isTold_94 rfl ?_
      exact go_zret dX12_isTold_95 rfl (by decide) vc rfl (Nat.le_refl _) (Nat.le_refl _)
set_option maxRecDepth 20000 in
theorem wX12_on_0 {p : Program} {l : Launch} {e : Env} {s : State} {m : MethodId} {args : Array Value} {below : List Frame} {meth : Method} {c : Code} {G : gG} {d : Nat} {Q : Option Value → gH → Prop} {h : gH} {lk sp : Nat} {cd : Option Nat}  (hR : h.2.2 = gRF lk sp cd) (hlk : lk = 30 ∨ lk = 67) (hsp : sp = 30 ∨ sp = 67)  (vc : gC l G d MX12_isTold [.ref 82, .int (h.1 82 1)] (sI h 82 1 0) (rI fun v1 h1 => h1.2.2 = ((sI h 82 1 0)).2.2 ∧ ((¬ v1 = 0 → gC l G d MX12_coinsTold [.ref 82] (sI h1 133 0 ((256 * (h1.1 83 0)) + (h1.1 83 1))) (rI fun v2 h2 => h2.2.2 = ((sI h1 133 0 ((256 * (h1.1 83 0)) + (h1.1 83 1)))).2.2 ∧ gg p l e s m args below meth c G (d + 1) MX12_on Q 65 [some (.ref 82), some (.int (h.1 82 1)), some (.int 0), none] [] (sI h2 133 1 v2))) ∧ (v1 = 0 → Q (some (.int 0)) (sI h1 84 5 ((h1.1 84 5) + 1)))))) : gg p l e s m args below meth c G (d + 1) MX12_on Q 0 [some (.ref 82), none, none, none] [] h := by
  refine go_aload_n (x := 82) dX12_on_0 rfl ?_
  refine go_getI' (v := (h.1 82 1)) dX12_on_1 f12_275 sh82 (fun _ _ => rfl) rfl ?_
  refine go_istore_n dX12_on_4 (Nat.le_of_ble_eq_true rfl) ?_
  show gg p l e s m args below meth c G (d + 1) MX12_on Q 5 [some (.ref 82), some (.int (h.1 82 1)), none, none] [] h
  refine go_aload_n (x := 82) dX12_on_5 rfl ?_
  refine go_iconst (v := 0) dX12_on_6 rfl ?_
  refine go_putI dX12_on_7 f12_275 sh82 rfl rfl ?_
  refine go_aload_n (x := 82) dX12_on_10 rfl ?_
  refine go_iload_n (x := (h.1 82 1)) dX12_on_11 rfl ?_
  refine gvI1 MX12_isTold dX12_on_12 lX12_813 kX12_isTold vX12_isTold sh82 (by decide) rfl (Nat.le_of_ble_eq_true rfl) vc ?_
  intro v1 h1 vc
  obtain ⟨hR1, vc⟩ := vc
  replace hR := hR1.trans hR
  refine go_if_ne 30 dX12_on_15 rfl (fun q => ?_) (fun q => ?_)
  · replace vc := vc.1 q
    refine go_aload_n (x := 82) dX12_on_30 rfl ?_
    refine go_getR (x := 133) dX12_on_31 f12_166 sh82 (fun _ _ => rfl) (rf82_68 hR) ?_
    refine go_iconst (v := 0) dX12_on_34 rfl ?_
    refine go_sipush (v := 256) dX12_on_35 rfl ?_
    refine go_aload_n (x := 82) dX12_on_38 rfl ?_
    refine go_getR (x := 83) dX12_on_39 f12_7 sh82 (fun _ _ => rfl) (rf82_0 hR) ?_
    refine go_iconst (v := 0) dX12_on_42 rfl ?_
    refine go_iald' (v := (h1.1 83 0)) dX12_on_43 sh83 (by unfold vp_in; decide) rfl ?_
    refine go_imul dX12_on_44 ?_
    refine go_aload_n (x := 82) dX12_on_45 rfl ?_
    refine go_getR (x := 83) dX12_on_46 f12_7 sh82 (fun _ _ => rfl) (rf82_0 hR) ?_
    refine go_iconst (v := 1) dX12_on_49 rfl ?_
    refine go_iald' (v := (h1.1 83 1)) dX12_on_50 sh83 (by unfold vp_in; decide) rfl ?_
    refine go_iadd dX12_on_51 ?_
    refine go_iast dX12_on_52 sh133 (by unfold vp_in; decide) ?_
    refine go_aload_n (x := 82) dX12_on_53 rfl ?_
    refine go_getR (x := 133) dX12_on_54 f12_166 sh82 (fun _ _ => rfl) (rf82_68 hR) ?_
    refine go_iconst (v := 1) dX12_on_57 rfl ?_
    refine go_aload_n (x := 82) dX12_on_58 rfl ?_
    refine gvI0 MX12_coinsTold dX12_on_59 lX12_807 kX12_coinsTold vX12_coinsTold sh82 (by decide) rfl (Nat.le_of_ble_eq_true rfl) vc ?_
    intro v2 h2 vc
    obtain ⟨hR2, vc⟩ := vc
    replace hR := hR2.trans hR
    refine go_iast dX12_on_62 sh133 (by unfold vp_in; decide) ?_
    refine go_iconst (v := 0) dX12_on_63 rfl ?_
    refine go_istore_n dX12_on_64 (Nat.le_of_ble_eq_true rfl) ?_
    show gg p l e s m args below meth c G (d + 1) MX12_on Q 65 [some (.ref 82), some (.int (h.1 82 1)), some (.int 0), none] [] (sI h2 133 1 v2)
    exact vc
  · replace vc := vc.2 q
    refine go_aload_n (x := 82) dX12_on_18 rfl ?_
    refine go_getR (x := 84) dX12_on_19 f12_17 sh82 (fun _ _ => rfl) (rf82_9 hR) ?_
    refine go_iconst (v := 5) dX12_on_22 rfl ?_
    refine go_dup2 dX12_on_23 rfl rfl ?_
    refine go_iald' (v := (h1.1 84 5)) dX12_on_24 sh84 (by unfold vp_in; decide) rfl ?_
    refine go_iconst (v := 1) dX12_on_25 rfl ?_
    refine go_iadd dX12_on_26 ?_
    refine go_iast dX12_on_27 sh84 (by unfold vp_in; decide) ?_
    refine go_iconst (v := 0) dX12_on_28 rfl ?_
    exact go_zret dX12_on_29 rfl (by decide) vc rfl (Nat.le_refl _) (Nat.le_refl _)
set_option maxRecDepth 20000 in
theorem wX12_on_65 {p : Program} {l : Launch} {e : Env} {s : State} {m : MethodId} {args : Array Value} {below : List Frame} {meth : Method} {c : Code} {G : gG} {d : Nat} {Q : Option Value → gH → Prop} {h : gH} {lk sp : Nat} {cd : Option Nat} {x1 : Int32} {x2 : Int32} (hR : h.2.2 = gRF lk sp cd) (hlk : lk = 30 ∨ lk = 67) (hsp : sp = 30 ∨ sp = 67)  (vc : gC l G d MX12_boatMany [.ref 82] h (rI fun v1 h1 => h1.2.2 = (h).2.2 ∧ ((v1 ≤ x2 → Q (some (.int 1)) (sI (sI h1 133 26 0) 82 80 0)) ∧ (¬ v1 ≤ x2 → gg p l e s m args below meth c G (d + 1) MX12_on Q 75 [some (.ref 82), some (.int x1), some (.int x2), some (.int 0)] [] h1)))) : gg p l e s m args below meth c G (d + 1) MX12_on Q 65 [some (.ref 82), some (.int x1), some (.int x2), none] [] h := by
  refine go_iload_n (x := x2) dX12_on_65 rfl ?_
  refine go_aload_n (x := 82) dX12_on_66 rfl ?_
  refine gvI0 MX12_boatMany dX12_on_67 lX12_483 kX12_boatMany vX12_boatMany sh82 (by decide) rfl (Nat.le_of_ble_eq_true rfl) vc ?_
  intro v1 h1 vc
  obtain ⟨hR1, vc⟩ := vc
  replace hR := hR1.trans hR
  refine go_icmp_ge 141 dX12_on_70 rfl (fun q => ?_) (fun q => ?_)
  · replace vc := vc.1 q
    refine go_aload_n (x := 82) dX12_on_141 rfl ?_
    refine go_getR (x := 133) dX12_on_142 f12_166 sh82 (fun _ _ => rfl) (rf82_68 hR) ?_
    refine go_bipush (v := 26) dX12_on_145 rfl ?_
    refine go_iconst (v := 0) dX12_on_147 rfl ?_
    refine go_iast dX12_on_148 sh133 (by unfold vp_in; decide) ?_
    refine go_aload_n (x := 82) dX12_on_149 rfl ?_
    refine go_iconst (v := 0) dX12_on_150 rfl ?_
    refine go_putI dX12_on_151 f12_425 sh82 rfl rfl ?_
    refine go_iconst (v := 1) dX12_on_154 rfl ?_
    exact go_zret dX12_on_155 rfl (by decide) vc rfl (Nat.le_refl _) (Nat.le_refl _)
  · replace vc := vc.2 q
    refine go_iconst (v := 0) dX12_on_73 rfl ?_
    refine go_istore_n dX12_on_74 (Nat.le_of_ble_eq_true rfl) ?_
    show gg p l e s m args below meth c G (d + 1) MX12_on Q 75 [some (.ref 82), some (.int x1), some (.int x2), some (.int 0)] [] h1
    exact vc
set_option maxRecDepth 20000 in
theorem wX12_on_75 {p : Program} {l : Launch} {e : Env} {s : State} {m : MethodId} {args : Array Value} {below : List Frame} {meth : Method} {c : Code} {G : gG} {d : Nat} {Q : Option Value → gH → Prop} {h : gH} {lk sp : Nat} {cd : Option Nat} {x1 : Int32} {x2 : Int32} {x3 : Int32} (hR : h.2.2 = gRF lk sp cd) (hlk : lk = 30 ∨ lk = 67) (hsp : sp = 30 ∨ sp = 67)  (vc : ((3 ≤ x3 → (vp_in ((8 + (4 * x2))) 1600 ∧ (vp_in (((2 + (4 * x2)) + 3)) 187 ∧ gg p l e s m args below meth c G (d + 1) MX12_on Q 65 [some (.ref 82), some (.int x1), some (.int (x2 + 1)), none] [] (sI h 133 (((2 + (4 * x2)) + 3) : Int32).toNatClampNeg ((h.1 83 ((8 + (4 * x2)) : Int32).toNatClampNeg) - 1))))) ∧ (¬ 3 ≤ x3 → (vp_in (((5 + (4 * x2)) + x3)) 1600 ∧ (vp_in (((2 + (4 * x2)) + x3)) 187 ∧ gg p l e s m args below meth c G (d + 1) MX12_on Q 75 [some (.ref 82), some (.int x1), some (.int x2), some (.int (x3 + 1))] [] (sI h 133 (((2 + (4 * x2)) + x3) : Int32).toNatClampNeg (h.1 83 (((5 + (4 * x2)) + x3) : Int32).toNatClampNeg))))))) : gg p l e s m args below meth c G (d + 1) MX12_on Q 75 [some (.ref 82), some (.int x1), some (.int x2), some (.int x3)] [] h := by
  refine go_iload_n (x := x3) dX12_on_75 rfl ?_
  refine go_iconst (v := 3) dX12_on_76 rfl ?_
  refine go_icmp_ge 110 dX12_on_77 rfl (fun q => ?_) (fun q => ?_)
  · replace vc := vc.1 q
    refine go_aload_n (x := 82) dX12_on_110 rfl ?_
    refine go_getR (x := 133) dX12_on_111 f12_166 sh82 (fun _ _ => rfl) (rf82_68 hR) ?_
    refine go_iconst (v := 2) dX12_on_114 rfl ?_
    refine go_iconst (v := 4) dX12_on_115 rfl ?_
    refine go_iload_n (x := x2) dX12_on_116 rfl ?_
    refine go_imul dX12_on_117 ?_
    refine go_iadd dX12_on_118 ?_
    refine go_iconst (v := 3) dX12_on_119 rfl ?_
    refine go_iadd dX12_on_120 ?_
    refine go_aload_n (x := 82) dX12_on_121 rfl ?_
    refine go_getR (x := 83) dX12_on_122 f12_7 sh82 (fun _ _ => rfl) (rf82_0 hR) ?_
    refine go_bipush (v := 8) dX12_on_125 rfl ?_
    refine go_iconst (v := 4) dX12_on_127 rfl ?_
    refine go_iload_n (x := x2) dX12_on_128 rfl ?_
    refine go_imul dX12_on_129 ?_
    refine go_iadd dX12_on_130 ?_
    refine go_iald' (v := (h.1 83 ((8 + (4 * x2)) : Int32).toNatClampNeg)) dX12_on_131 sh83 vc.1 rfl ?_
    have vc := vc.2
    refine go_iconst (v := 1) dX12_on_132 rfl ?_
    refine go_isub dX12_on_133 ?_
    refine go_iast dX12_on_134 sh133 vc.1 ?_
    have vc := vc.2
    show gg p l e s m args below meth c G (d + 1) MX12_on Q 135 [some (.ref 82), some (.int x1), some (.int x2), some (.int x3)] [] (sI h 133 (((2 + (4 * x2)) + 3) : Int32).toNatClampNeg ((h.1 83 ((8 + (4 * x2)) : Int32).toNatClampNeg) - 1))
    refine go_iinc (x := x2) dX12_on_135 rfl ?_
    show gg p l e s m args below meth c G (d + 1) MX12_on Q 138 [some (.ref 82), some (.int x1), some (.int (x2 + 1)), some (.int x3)] [] (sI h 133 (((2 + (4 * x2)) + 3) : Int32).toNatClampNeg ((h.1 83 ((8 + (4 * x2)) : Int32).toNatClampNeg) - 1))
    refine go_goto 65 dX12_on_138 rfl ?_
    refine go_weak (ls' := [some (.ref 82), some (.int x1), some (.int (x2 + 1)), none]) ?_ vc
    exact (⟨rfl, ⟨rfl, ⟨rfl, trivial⟩⟩⟩)
  · replace vc := vc.2 q
    refine go_aload_n (x := 82) dX12_on_80 rfl ?_
    refine go_getR (x := 133) dX12_on_81 f12_166 sh82 (fun _ _ => rfl) (rf82_68 hR) ?_
    refine go_iconst (v := 2) dX12_on_84 rfl ?_
    refine go_iconst (v := 4) dX12_on_85 rfl ?_
    refine go_iload_n (x := x2) dX12_on_86 rfl ?_
    refine go_imul dX12_on_87 ?_
    refine go_iadd dX12_on_88 ?_
    refine go_iload_n (x := x3) dX12_on_89 rfl ?_
    refine go_iadd dX12_on_90 ?_
    refine go_aload_n (x := 82) dX12_on_91 rfl ?_
    refine go_getR (x := 83) dX12_on_92 f12_7 sh82 (fun _ _ => rfl) (rf82_0 hR) ?_
    refine go_iconst (v := 5) dX12_on_95 rfl ?_
    refine go_iconst (v := 4) dX12_on_96 rfl ?_
    refine go_iload_n (x := x2) dX12_on_97 rfl ?_
    refine go_imul dX12_on_98 ?_
    refine go_iadd dX12_on_99 ?_
    refine go_iload_n (x := x3) dX12_on_100 rfl ?_
    refine go_iadd dX12_on_101 ?_
    refine go_iald' (v := (h.1 83 (((5 + (4 * x2)) + x3) : Int32).toNatClampNeg)) dX12_on_102 sh83 vc.1 rfl ?_
    have vc := vc.2
    refine go_iast dX12_on_103 sh133 vc.1 ?_
    have vc := vc.2
    show gg p l e s m args below meth c G (d + 1) MX12_on Q 104 [some (.ref 82), some (.int x1), some (.int x2), some (.int x3)] [] (sI h 133 (((2 + (4 * x2)) + x3) : Int32).toNatClampNeg (h.1 83 (((5 + (4 * x2)) + x3) : Int32).toNatClampNeg))
    refine go_iinc (x := x3) dX12_on_104 rfl ?_
    show gg p l e s m args below meth c G (d + 1) MX12_on Q 107 [some (.ref 82), some (.int x1), some (.int x2), some (.int (x3 + 1))] [] (sI h 133 (((2 + (4 * x2)) + x3) : Int32).toNatClampNeg (h.1 83 (((5 + (4 * x2)) + x3) : Int32).toNatClampNeg))
    refine go_goto 75 dX12_on_107 rfl ?_
    exact vc
set_option maxRecDepth 20000 in
theorem wX12_status_0 {p : Program} {l : Launch} {e : Env} {s : State} {m : MethodId} {args : Array Value} {below : List Frame} {meth : Method} {c : Code} {G : gG} {d : Nat} {Q : Option Value → gH → Prop} {h : gH} {lk sp : Nat} {cd : Option Nat} {a1 : Int32} (hR : h.2.2 = gRF lk sp cd) (hlk : lk = 30 ∨ lk = 67) (hsp : sp = 30 ∨ sp = 67)  (vc : gC l G d MX12_isIn [.long (a1 : Int32).toInt64, .long 0, .long 5] h (rI fun v1 h1 => h1.2.2 = (h).2.2 ∧ ((v1 = 0 → Q (some (.int (-1))) h1) ∧ (¬ v1 = 0 → (vp_in a1 6 ∧ Q (some (.int (h1.1 84 a1.toNatClampNeg))) h1))))) : gg p l e s m args below meth c G (d + 1) MX12_status Q 0 [some (.ref 82), some (.int a1)] [] h := by
  refine go_iload_n (x := a1) dX12_status_0 rfl ?_
  refine go_i2l dX12_status_1 ?_
  refine go_lconst (v := 0) dX12_status_2 rfl ?_
  refine go_ldc2 (v := 5) dX12_status_3 nX12_562 ?_
  refine gsI3 MX12_isIn dX12_status_6 lX12_321 kX12_isIn sX12_isIn (Nat.le_of_ble_eq_true rfl) vc ?_
  intro v1 h1 vc
  obtain ⟨hR1, vc⟩ := vc
  replace hR := hR1.trans hR
  refine go_if_eq 21 dX12_status_9 rfl (fun q => ?_) (fun q => ?_)
  · replace vc := vc.1 q
    refine go_iconst (v := (-1)) dX12_status_21 rfl ?_
    exact go_iret dX12_status_22 rfl vc rfl (Nat.le_refl _) (Nat.le_refl _)
  · replace vc := vc.2 q
    refine go_aload_n (x := 82) dX12_status_12 rfl ?_
    refine go_getR (x := 84) dX12_status_13 f12_17 sh82 (fun _ _ => rfl) (rf82_9 hR) ?_
    refine go_iload_n (x := a1) dX12_status_16 rfl ?_
    refine go_iald' (v := (h1.1 84 a1.toNatClampNeg)) dX12_status_17 sh84 vc.1 rfl ?_
    have vc := vc.2
    refine go_goto 22 dX12_status_18 rfl ?_
    exact go_iret dX12_status_22 rfl vc rfl (Nat.le_refl _) (Nat.le_refl _)
