set_option maxRecDepth 20000 in
theorem wX12_runs_0 {p : Program} {l : Launch} {e : Env} {s : State} {m : MethodId} {args : Array Value} {below : List Frame} {meth : Method} {c : Code} {G : gG} {d : Nat} {Q : Option Value → gH → Prop} {h : gH} {lk sp : Nat} {cd : Option Nat} {a1 : Int32} {a2 : Int32} (hR : h.2.2 = gRF lk sp cd) (hlk : lk = 30 ∨ lk = 67) (hsp : sp = 30 ∨ sp = 67)  (vc : gC l G d MX12_isBoat [.ref 82, .int a1] h (rI fun v1 h1 => h1.2.2 = (h).2.2 ∧ ((v1 = 0 → Q (some (.int (-1))) h1) ∧ (¬ v1 = 0 → gC l G d MX12_isIn [.long (a2 : Int32).toInt64, .long 0, .long 1] h1 (rI fun v2 h2 => h2.2.2 = (h1).2.2 ∧ ((¬ v2 = 0 → gC l G d MX12_laysFears [.ref 82, .int a1] h2 (rV fun h3 => h3.2.2 = (h2).2.2 ∧ gC l G d MX12_cellOf [.ref 82, .int a1] h3 (rI fun v4 h4 => h4.2.2 = (h3).2.2 ∧ gC l G d MX12_leastBeside [.ref 82, .int v4] h4 (rI fun v5 h5 => h5.2.2 = (h4).2.2 ∧ gg p l e s m args below meth c G (d + 1) MX12_runs Q 41 [some (.ref 82), some (.int a1), some (.int a2), some (.int v4), some (.int 0), some (.int v5)] [] h5)))) ∧ (v2 = 0 → Q (some (.int (-1))) h2))))))) : gg p l e s m args below meth c G (d + 1) MX12_runs Q 0 [some (.ref 82), some (.int a1), some (.int a2), none, none, none] [] h := by
  refine go_aload_n (x := 82) dX12_runs_0 rfl ?_
  refine go_iload_n (x := a1) dX12_runs_1 rfl ?_
  refine gvI1 MX12_isBoat dX12_runs_2 lX12_564 kX12_isBoat vX12_isBoat sh82 (by decide) rfl (Nat.le_of_ble_eq_true rfl) vc ?_
  intro v1 h1 vc
  obtain ⟨hR1, vc⟩ := vc
  replace hR := hR1.trans hR
  refine go_if_eq 18 dX12_runs_5 rfl (fun q => ?_) (fun q => ?_)
  · replace vc := vc.1 q
    refine go_iconst (v := (-1)) dX12_runs_18 rfl ?_
    exact go_iret dX12_runs_19 rfl vc rfl (Nat.le_refl _) (Nat.le_refl _)
  · replace vc := vc.2 q
    refine go_iload_n (x := a2) dX12_runs_8 rfl ?_
    refine go_i2l dX12_runs_9 ?_
    refine go_lconst (v := 0) dX12_runs_10 rfl ?_
    refine go_lconst (v := 1) dX12_runs_11 rfl ?_
    refine gsI3 MX12_isIn dX12_runs_12 lX12_321 kX12_isIn sX12_isIn (Nat.le_of_ble_eq_true rfl) vc ?_
    intro v2 h2 vc
    obtain ⟨hR2, vc⟩ := vc
    replace hR := hR2.trans hR
    refine go_if_ne 20 dX12_runs_15 rfl (fun q => ?_) (fun q => ?_)
    · replace vc := vc.1 q
      refine go_aload_n (x := 82) dX12_runs_20 rfl ?_
      refine go_iload_n (x := a1) dX12_runs_21 rfl ?_
      refine gvV1 MX12_laysFears dX12_runs_22 lX12_590 kX12_laysFears vX12_laysFears sh82 (by decide) rfl (Nat.le_of_ble_eq_true rfl) vc ?_
      intro h3 vc
      obtain ⟨hR3, vc⟩ := vc
      replace hR := hR3.trans hR
      refine go_aload_n (x := 82) dX12_runs_25 rfl ?_
      refine go_iload_n (x := a1) dX12_runs_26 rfl ?_
      refine gvI1 MX12_cellOf dX12_runs_27 lX12_504 kX12_cellOf vX12_cellOf sh82 (by decide) rfl (Nat.le_of_ble_eq_true rfl) vc ?_
      intro v4 h4 vc
      obtain ⟨hR4, vc⟩ := vc
      replace hR := hR4.trans hR
      refine go_istore_n dX12_runs_30 (Nat.le_of_ble_eq_true rfl) ?_
      show gg p l e s m args below meth c G (d + 1) MX12_runs Q 31 [some (.ref 82), some (.int a1), some (.int a2), some (.int v4), none, none] [] h4
      refine go_iconst (v := 0) dX12_runs_31 rfl ?_
      refine go_istore dX12_runs_32 (Nat.le_of_ble_eq_true rfl) ?_
      show gg p l e s m args below meth c G (d + 1) MX12_runs Q 34 [some (.ref 82), some (.int a1), some (.int a2), some (.int v4), some (.int 0), none] [] h4
      refine go_aload_n (x := 82) dX12_runs_34 rfl ?_
      refine go_iload_n (x := v4) dX12_runs_35 rfl ?_
      refine gvI1 MX12_leastBeside dX12_runs_36 lX12_605 kX12_leastBeside vX12_leastBeside sh82 (by decide) rfl (Nat.le_of_ble_eq_true rfl) vc ?_
      intro v5 h5 vc
      obtain ⟨hR5, vc⟩ := vc
      replace hR := hR5.trans hR
      refine go_istore dX12_runs_39 (Nat.le_of_ble_eq_true rfl) ?_
      show gg p l e s m args below meth c G (d + 1) MX12_runs Q 41 [some (.ref 82), some (.int a1), some (.int a2), some (.int v4), some (.int 0), some (.int v5)] [] h5
      exact vc
    · replace vc := vc.2 q
      refine go_iconst (v := (-1)) dX12_runs_18 rfl ?_
      exact go_iret dX12_runs_19 rfl vc rfl (Nat.le_refl _) (Nat.le_refl _)
set_option maxRecDepth 20000 in
theorem wX12_runs_41 {p : Program} {l : Launch} {e : Env} {s : State} {m : MethodId} {args : Array Value} {below : List Frame} {meth : Method} {c : Code} {G : gG} {d : Nat} {Q : Option Value → gH → Prop} {h : gH} {lk sp : Nat} {cd : Option Nat} {x1 : Int32} {x2 : Int32} {x3 : Int32} {x4 : Int32} {x5 : Int32} (hR : h.2.2 = gRF lk sp cd) (hlk : lk = 30 ∨ lk = 67) (hsp : sp = 30 ∨ sp = 67)  (vc : ((x5 = (-1) → ((¬ x2 = 0 → Q (some (.int x4)) h) ∧ (x2 = 0 → Q (some (.int x3)) h))) ∧ (¬ x5 = (-1) → (vp_in x5 48 ∧ (vp_in x3 48 ∧ (((h.1 135 x3.toNatClampNeg) ≤ (h.1 135 x5.toNatClampNeg) → ((¬ x2 = 0 → Q (some (.int x4)) h) ∧ (x2 = 0 → Q (some (.int x3)) h))) ∧ (¬ (h.1 135 x3.toNatClampNeg) ≤ (h.1 135 x5.toNatClampNeg) → gC l G d MX12_leastBeside [.ref 82, .int x5] h (rI fun v1 h1 => h1.2.2 = (h).2.2 ∧ gg p l e s m args below meth c G (d + 1) MX12_runs Q 41 [some (.ref 82), some (.int x1), some (.int x2), some (.int x5), some (.int (x4 + 1)), some (.int v1)] [] h1)))))))) : gg p l e s m args below meth c G (d + 1) MX12_runs Q 41 [some (.ref 82), some (.int x1), some (.int x2), some (.int x3), some (.int x4), some (.int x5)] [] h := by
  refine go_iload (x := x5) dX12_runs_41 rfl ?_
  refine go_iconst (v := (-1)) dX12_runs_43 rfl ?_
  refine go_icmp_eq 79 dX12_runs_44 rfl (fun q => ?_) (fun q => ?_)
  · replace vc := vc.1 q
    refine go_iload_n (x := x2) dX12_runs_79 rfl ?_
    refine go_if_ne 87 dX12_runs_80 rfl (fun q => ?_) (fun q => ?_)
    · replace vc := vc.1 q
      refine go_iload (x := x4) dX12_runs_87 rfl ?_
      exact go_iret dX12_runs_89 rfl vc rfl (Nat.le_refl _) (Nat.le_refl _)
    · replace vc := vc.2 q
      refine go_iload_n (x := x3) dX12_runs_83 rfl ?_
      refine go_goto 89 dX12_runs_84 rfl ?_
      exact go_iret dX12_runs_89 rfl vc rfl (Nat.le_refl _) (Nat.le_refl _)
  · replace vc := vc.2 q
    refine go_aload_n (x := 82) dX12_runs_47 rfl ?_
    refine go_getR (x := 135) dX12_runs_48 f12_172 sh82 (fun _ _ => rfl) (rf82_70 hR) ?_
    refine go_iload (x := x5) dX12_runs_51 rfl ?_
    refine go_iald' (v := (h.1 135 x5.toNatClampNeg)) dX12_runs_53 sh135 vc.1 rfl ?_
    have vc := vc.2
    refine go_aload_n (x := 82) dX12_runs_54 rfl ?_
    refine go_getR (x := 135) dX12_runs_55 f12_172 sh82 (fun _ _ => rfl) (rf82_70 hR) ?_
    refine go_iload_n (x := x3) dX12_runs_58 rfl ?_
    refine go_iald' (v := (h.1 135 x3.toNatClampNeg)) dX12_runs_59 sh135 vc.1 rfl ?_
    have vc := vc.2
    refine go_icmp_ge 79 dX12_runs_60 rfl (fun q => ?_) (fun q => ?_)
    · replace vc := vc.1 q
      refine go_iload_n (x := x2) dX12_runs_79 rfl ?_
      refine go_if_ne 87 dX12_runs_80 rfl (fun q => ?_) (fun q => ?_)
      · replace vc := vc.1 q
        refine go_iload (x := x4) dX12_runs_87 rfl ?_
        exact go_iret dX12_runs_89 rfl vc rfl (Nat.le_refl _) (Nat.le_refl _)
      · replace vc := vc.2 q
        refine go_iload_n (x := x3) dX12_runs_83 rfl ?_
        refine go_goto 89 dX12_runs_84 rfl ?_
        exact go_iret dX12_runs_89 rfl vc rfl (Nat.le_refl _) (Nat.le_refl _)
    · replace vc := vc.2 q
      refine go_iload (x := x5) dX12_runs_63 rfl ?_
      refine go_istore_n dX12_runs_65 (Nat.le_of_ble_eq_true rfl) ?_
      show gg p l e s m args below meth c G (d + 1) MX12_runs Q 66 [some (.ref 82), some (.int x1), some (.int x2), some (.int x5), some (.int x4), some (.int x5)] [] h
      refine go_iinc (x := x4) dX12_runs_66 rfl ?_
      show gg p l e s m args below meth c G (d + 1) MX12_runs Q 69 [some (.ref 82), some (.int x1), some (.int x2), some (.int x5), some (.int (x4 + 1)), some (.int x5)] [] h
      refine go_aload_n (x := 82) dX12_runs_69 rfl ?_
      refine go_iload_n (x := x5) dX12_runs_70 rfl ?_
      refine gvI1 MX12_leastBeside dX12_runs_71 lX12_605 kX12_leastBeside vX12_leastBeside sh82 (by decide) rfl (Nat.le_of_ble_eq_true rfl) vc ?_
      intro v1 h1 vc
      obtain ⟨hR1, vc⟩ := vc
      replace hR := hR1.trans hR
      refine go_istore dX12_runs_74 (Nat.le_of_ble_eq_true rfl) ?_
      show gg p l e s m args below meth c G (d + 1) MX12_runs Q 76 [some (.ref 82), some (.int x1), some (.int x2), some (.int x5), some (.int (x4 + 1)), some (.int v1)] [] h1
      refine go_goto 41 dX12_runs_76 rfl ?_
      exact vc
set_option maxRecDepth 20000 in
theorem wX12_canFile_0 {p : Program} {l : Launch} {e : Env} {s : State} {m : MethodId} {args : Array Value} {below : List Frame} {meth : Method} {c : Code} {G : gG} {d : Nat} {Q : Option Value → gH → Prop} {h : gH} {lk sp : Nat} {cd : Option Nat} {a1 : Int32} {a2 : Int32} (hR : h.2.2 = gRF lk sp cd) (hlk : lk = 30 ∨ lk = 67) (hsp : sp = 30 ∨ sp = 67)  (vc : ((a1 ≤ 0 → Q (some (.int 0)) h) ∧ (¬ a1 ≤ 0 → gC l G d MX12_boatMany [.ref 82] h (rI fun v1 h1 => h1.2.2 = (h).2.2 ∧ ((a1 < (1 <<< (v1 &&& 31)) → gg p l e s m args below meth c G (d + 1) MX12_canFile Q 21 [some (.ref 82), some (.int a1), some (.int a2), some (.int (-1)), some (.int 0)] [] h1) ∧ (¬ a1 < (1 <<< (v1 &&& 31)) → Q (some (.int 0)) h1)))))) : gg p l e s m args below meth c G (d + 1) MX12_canFile Q 0 [some (.ref 82), some (.int a1), some (.int a2), none, none] [] h := by
  refine go_iload_n (x := a1) dX12_canFile_0 rfl ?_
  refine go_if_le 14 dX12_canFile_1 rfl (fun q => ?_) (fun q => ?_)
  · replace vc := vc.1 q
    refine go_iconst (v := 0) dX12_canFile_14 rfl ?_
    exact go_zret dX12_canFile_15 rfl (by decide) vc rfl (Nat.le_refl _) (Nat.le_refl _)
  · replace vc := vc.2 q
    refine go_iload_n (x := a1) dX12_canFile_4 rfl ?_
    refine go_iconst (v := 1) dX12_canFile_5 rfl ?_
    refine go_aload_n (x := 82) dX12_canFile_6 rfl ?_
    refine gvI0 MX12_boatMany dX12_canFile_7 lX12_483 kX12_boatMany vX12_boatMany sh82 (by decide) rfl (Nat.le_of_ble_eq_true rfl) vc ?_
    intro v1 h1 vc
    obtain ⟨hR1, vc⟩ := vc
    replace hR := hR1.trans hR
    refine go_ishl dX12_canFile_10 ?_
    refine go_icmp_lt 16 dX12_canFile_11 rfl (fun q => ?_) (fun q => ?_)
    · replace vc := vc.1 q
      refine go_iconst (v := (-1)) dX12_canFile_16 rfl ?_
      refine go_istore_n dX12_canFile_17 (Nat.le_of_ble_eq_true rfl) ?_
      show gg p l e s m args below meth c G (d + 1) MX12_canFile Q 18 [some (.ref 82), some (.int a1), some (.int a2), some (.int (-1)), none] [] h1
      refine go_iconst (v := 0) dX12_canFile_18 rfl ?_
      refine go_istore dX12_canFile_19 (Nat.le_of_ble_eq_true rfl) ?_
      show gg p l e s m args below meth c G (d + 1) MX12_canFile Q 21 [some (.ref 82), some (.int a1), some (.int a2), some (.int (-1)), some (.int 0)] [] h1
      exact vc
    · replace vc := vc.2 q
      refine go_iconst (v := 0) dX12_canFile_14 rfl ?_
      exact go_zret dX12_canFile_15 rfl (by decide) vc rfl (Nat.le_refl _) (Nat.le_refl _)
set_option maxRecDepth 20000 in
theorem wX12_canFile_21 {p : Program} {l : Launch} {e : Env} {s : State} {m : MethodId} {args : Array Value} {below : List Frame} {meth : Method} {c : Code} {G : gG} {d : Nat} {Q : Option Value → gH → Prop} {h : gH} {lk sp : Nat} {cd : Option Nat} {x1 : Int32} {x2 : Int32} {x3 : Int32} {x4 : Int32} (hR : h.2.2 = gRF lk sp cd) (hlk : lk = 30 ∨ lk = 67) (hsp : sp = 30 ∨ sp = 67)  (vc : gC l G d MX12_boatMany [.ref 82] h (rI fun v1 h1 => h1.2.2 = (h).2.2 ∧ ((v1 ≤ x4 → gC l G d MX12_isBeside [.ref 82, .int x3, .int x2] h1 (rI fun v2 h2 => h2.2.2 = (h1).2.2 ∧ ((v2 = 0 ∨ v2 = 1) ∧ Q (some (.int v2)) h2))) ∧ (¬ v1 ≤ x4 → ((¬ ((x1 >>> (x4 &&& 31)) &&& 1) = 0 → ((x3 = (-1) → gC l G d MX12_cellOf [.ref 82, .int x4] h1 (rI fun v3 h3 => h3.2.2 = (h1).2.2 ∧ gg p l e s m args below meth c G (d + 1) MX12_canFile Q 21 [some (.ref 82), some (.int x1), some (.int x2), some (.int v3), some (.int (x4 + 1))] [] h3)) ∧ (¬ x3 = (-1) → gC l G d MX12_cellOf [.ref 82, .int x4] h1 (rI fun v4 h4 => h4.2.2 = (h1).2.2 ∧ ((v4 = x3 → gC l G d MX12_cellOf [.ref 82, .int x4] h4 (rI fun v5 h5 => h5.2.2 = (h4).2.2 ∧ gg p l e s m args below meth c G (d + 1) MX12_canFile Q 21 [some (.ref 82), some (.int x1), some (.int x2), some (.int v5), some (.int (x4 + 1))] [] h5)) ∧ (¬ v4 = x3 → Q (some (.int 0)) h4)))))) ∧ (((x1 >>> (x4 &&& 31)) &&& 1) = 0 → gg p l e s m args below meth c G (d + 1) MX12_canFile Q 21 [some (.ref 82), some (.int x1), some (.int x2), some (.int x3), some (.int (x4 + 1))] [] h1)))))) : gg p l e s m args below meth c G (d + 1) MX12_canFile Q 21 [some (.ref 82), some (.int x1), some (.int x2), some (.int x3), some (.int x4)] [] h := by
  refine go_iload (x := x4) dX12_canFile_21 rfl ?_
  refine go_aload_n (x := 82) dX12_canFile_23 rfl ?_
  refine gvI0 MX12_boatMany dX12_canFile_24 lX12_483 kX12_boatMany vX12_boatMany sh82 (by decide) rfl (Nat.le_of_ble_eq_true rfl) vc ?_
  intro v1 h1 vc
  obtain ⟨hR1, vc⟩ := vc
  replace hR := hR1.trans hR
  refine go_icmp_ge 72 dX12_canFile_27 rfl (fun q => ?_) (fun q => ?_)
  · replace vc := vc.1 q
    refine go_aload_n (x := 82) dX12_canFile_72 rfl ?_
    refine go_iload_n (x := x3) dX12_canFile_73 rfl ?_
    refine go_iload_n (x := x2) dX12_canFile_74 rfl ?_
    refine gvI2 MX12_isBeside dX12_canFile_75 lX12_608 kX12_isBeside vX12_isBeside sh82 (by decide) rfl (Nat.le_of_ble_eq_true rfl) vc ?_
    intro v2 h2 vc
    obtain ⟨hR2, vc⟩ := vc
    replace hR := hR2.trans hR
    exact go_zret dX12_canFile_78 rfl vc.1 vc.2 rfl (Nat.le_refl _) (Nat.le_refl _)
  · replace vc := vc.2 q
    refine go_iload_n (x := x1) dX12_canFile_30 rfl ?_
    refine go_iload (x := x4) dX12_canFile_31 rfl ?_
    refine go_ishr dX12_canFile_33 ?_
    refine go_iconst (v := 1) dX12_canFile_34 rfl ?_
    refine go_iand dX12_canFile_35 ?_
    refine go_if_ne 42 dX12_canFile_36 rfl (fun q => ?_) (fun q => ?_)
    · replace vc := vc.1 q
      refine go_iload_n (x := x3) dX12_canFile_42 rfl ?_
      refine go_iconst (v := (-1)) dX12_canFile_43 rfl ?_
      refine go_icmp_eq 59 dX12_canFile_44 rfl (fun q => ?_) (fun q => ?_)
      · replace vc := vc.1 q
        refine go_aload_n (x := 82) dX12_canFile_59 rfl ?_
        refine go_iload (x := x4) dX12_canFile_60 rfl ?_
        refine gvI1 MX12_cellOf dX12_canFile_62 lX12_504 kX12_cellOf vX12_cellOf sh82 (by decide) rfl (Nat.le_of_ble_eq_true rfl) vc ?_
        intro v3 h3 vc
        obtain ⟨hR3, vc⟩ := vc
        replace hR := hR3.trans hR
        refine go_istore_n dX12_canFile_65 (Nat.le_of_ble_eq_true rfl) ?_
        show gg p l e s m args below meth c G (d + 1) MX12_canFile Q 66 [some (.ref 82), some (.int x1), some (.int x2), some (.int v3), some (.int x4)] [] h3
        refine go_iinc (x := x4) dX12_canFile_66 rfl ?_
        show gg p l e s m args below meth c G (d + 1) MX12_canFile Q 69 [some (.ref 82), some (.int x1), some (.int x2), some (.int v3), some (.int (x4 + 1))] [] h3
        refine go_goto 21 dX12_canFile_69 rfl ?_
        exact vc
      · replace vc := vc.2 q
        refine go_aload_n (x := 82) dX12_canFile_47 rfl ?_
        refine go_iload (x := x4) dX12_canFile_48 rfl ?_
        refine gvI1 MX12_cellOf dX12_canFile_50 lX12_504 kX12_cellOf vX12_cellOf sh82 (by decide) rfl (Nat.le_of_ble_eq_true rfl) vc ?_
        intro v4 h4 vc
        obtain ⟨hR4, vc⟩ := vc
        replace hR := hR4.trans hR
        refine go_iload_n (x := x3) dX12_canFile_53 rfl ?_
        refine go_icmp_eq 59 dX12_canFile_54 rfl (fun q => ?_) (fun q => ?_)
        · replace vc := vc.1 q
          refine go_aload_n (x := 82) dX12_canFile_59 rfl ?_
          refine go_iload (x := x4) dX12_canFile_60 rfl ?_
          refine gvI1 MX12_cellOf dX12_canFile_62 lX12_504 kX12_cellOf vX12_cellOf sh82 (by decide) rfl (Nat.le_of_ble_eq_true rfl) vc ?_
          intro v5 h5 vc
          obtain ⟨hR5, vc⟩ := vc
          replace hR := hR5.trans hR
          refine go_istore_n dX12_canFile_65 (Nat.le_of_ble_eq_true rfl) ?_
          show gg p l e s m args below meth c G (d + 1) MX12_canFile Q 66 [some (.ref 82), some (.int x1), some (.int x2), some (.int v5), some (.int x4)] [] h5
          refine go_iinc (x := x4) dX12_canFile_66 rfl ?_
          show gg p l e s m args below meth c G (d + 1) MX12_canFile Q 69 [some (.ref 82), some (.int x1), some (.int x2), some (.int v5), some (.int (x4 + 1))] [] h5
          refine go_goto 21 dX12_canFile_69 rfl ?_
          exact vc
        · replace vc := vc.2 q
          refine go_iconst (v := 0) dX12_canFile_57 rfl ?_
          exact go_zret dX12_canFile_58 rfl (by decide) vc rfl (Nat.le_refl _) (Nat.le_refl _)
    · replace vc := vc.2 q
      refine go_goto 66 dX12_canFile_39 rfl ?_
      refine go_iinc (x := x4) dX12_canFile_66 rfl ?_
      show gg p l e s m args below meth c G (d + 1) MX12_canFile Q 69 [some (.ref 82), some (.int x1), some (.int x2), some (.int x3), some (.int (x4 + 1))] [] h1
      refine go_goto 21 dX12_canFile_69 rfl ?_
      exact vc
set_option maxRecDepth 20000 in
theorem wX12_files_0 {p : Program} {l : Launch} {e : Env} {s : State} {m : MethodId} {args : Array Value} {below : List Frame} {meth : Method} {c : Code} {G : gG} {d : Nat} {Q : Option Value → gH → Prop} {h : gH} {lk sp : Nat} {cd : Option Nat} {a1 : Int32} {a2 : Int32} (hR : h.2.2 = gRF lk sp cd) (hlk : lk = 30 ∨ lk = 67) (hsp : sp = 30 ∨ sp = 67)  (vc : gg p l e s m args below meth c G (d + 1) MX12_files Q 8 [some (.ref 82), some (.int a1), some (.int a2), some (.int (-1)), some (.int 0), some (.int 0)] [] h) : gg p l e s m args below meth c G (d + 1) MX12_files Q 0 [some (.ref 82), some (.int a1), some (.int a2), none, none, none] [] h := by
  refine go_iconst (v := (-1)) dX12_files_0 rfl ?_
  refine go_istore_n dX12_files_1 (Nat.le_of_ble_eq_true rfl) ?_
  show gg p l e s m args below meth c G (d + 1) MX12_files Q 2 [some (.ref 82), some (.int a1), some (.int a2), some (.int (-1)), none, none] [] h
  refine go_iconst (v := 0) dX12_files_2 rfl ?_
  refine go_istore dX12_files_3 (Nat.le_of_ble_eq_true rfl) ?_
  show gg p l e s m args below meth c G (d + 1) MX12_files Q 5 [some (.ref 82), some (.int a1), some (.int a2), some (.int (-1)), some (.int 0), none] [] h
  refine go_iconst (v := 0) dX12_files_5 rfl ?_
  refine go_istore dX12_files_6 (Nat.le_of_ble_eq_true rfl) ?_
  show gg p l e s m args below meth c G (d + 1) MX12_files Q 8 [some (.ref 82), some (.int a1), some (.int a2), some (.int (-1)), some (.int 0), some (.int 0)] [] h
  exact vc
set_option maxRecDepth 20000 in
theorem wX12_files_8 {p : Program} {l : Launch} {e : Env} {s : State} {m : MethodId} {args : Array Value} {below : List Frame} {meth : Method} {c : Code} {G : gG} {d : Nat} {Q : Option Value → gH → Prop} {h : gH} {lk sp : Nat} {cd : Option Nat} {x1 : Int32} {x2 : Int32} {x3 : Int32} {x4 : Int32} {x5 : Int32} (hR : h.2.2 = gRF lk sp cd) (hlk : lk = 30 ∨ lk = 67) (hsp : sp = 30 ∨ sp = 67)  (vc : ((x1 ≤ x5 → Q (some (.int x4)) h) ∧ (¬ x1 ≤ x5 → (vp_in x5 6 ∧ gC l G d MX12_tries [.ref 82, .int (h.1 137 x5.toNatClampNeg), .int x2, .int x3] h (rI fun v1 h1 => h1.2.2 = (h).2.2 ∧ ((¬ v1 = 0 → (vp_in x5 6 ∧ gC l G d MX12_trustOf [.ref 82, .int (h1.1 137 x5.toNatClampNeg)] h1 (rI fun v2 h2 => h2.2.2 = (h1).2.2 ∧ gg p l e s m args below meth c G (d + 1) MX12_files Q 8 [some (.ref 82), some (.int x1), some (.int x2), some (.int v2), some (.int (x4 + 1)), some (.int (x5 + 1))] [] h2))) ∧ (v1 = 0 → gg p l e s m args below meth c G (d + 1) MX12_files Q 8 [some (.ref 82), some (.int x1), some (.int x2), some (.int x3), some (.int x4), some (.int (x5 + 1))] [] h1))))))) : gg p l e s m args below meth c G (d + 1) MX12_files Q 8 [some (.ref 82), some (.int x1), some (.int x2), some (.int x3), some (.int x4), some (.int x5)] [] h := by
  refine go_iload (x := x5) dX12_files_8 rfl ?_
  refine go_iload_n (x := x1) dX12_files_10 rfl ?_
  refine go_icmp_ge 54 dX12_files_11 rfl (fun q => ?_) (fun q => ?_)
  · replace vc := vc.1 q
    refine go_iload (x := x4) dX12_files_54 rfl ?_
    exact go_iret dX12_files_56 rfl vc rfl (Nat.le_refl _) (Nat.le_refl _)
  · replace vc := vc.2 q
    refine go_aload_n (x := 82) dX12_files_14 rfl ?_
    refine go_aload_n (x := 82) dX12_files_15 rfl ?_
    refine go_getR (x := 137) dX12_files_16 f12_178 sh82 (fun _ _ => rfl) (rf82_72 hR) ?_
    refine go_iload (x := x5) dX12_files_19 rfl ?_
    refine go_iald' (v := (h.1 137 x5.toNatClampNeg)) dX12_files_21 sh137 vc.1 rfl ?_
    have vc := vc.2
    refine go_iload_n (x := x2) dX12_files_22 rfl ?_
    refine go_iload_n (x := x3) dX12_files_23 rfl ?_
    refine gvI3 MX12_tries dX12_files_24 lX12_612 kX12_tries vX12_tries sh82 (by decide) rfl (Nat.le_of_ble_eq_true rfl) vc ?_
    intro v1 h1 vc
    obtain ⟨hR1, vc⟩ := vc
    replace hR := hR1.trans hR
    refine go_if_ne 33 dX12_files_27 rfl (fun q => ?_) (fun q => ?_)
    · replace vc := vc.1 q
      refine go_iinc (x := x4) dX12_files_33 rfl ?_
      show gg p l e s m args below meth c G (d + 1) MX12_files Q 36 [some (.ref 82), some (.int x1), some (.int x2), some (.int x3), some (.int (x4 + 1)), some (.int x5)] [] h1
      refine go_aload_n (x := 82) dX12_files_36 rfl ?_
      refine go_aload_n (x := 82) dX12_files_37 rfl ?_
      refine go_getR (x := 137) dX12_files_38 f12_178 sh82 (fun _ _ => rfl) (rf82_72 hR) ?_
      refine go_iload (x := x5) dX12_files_41 rfl ?_
      refine go_iald' (v := (h1.1 137 x5.toNatClampNeg)) dX12_files_43 sh137 vc.1 rfl ?_
      have vc := vc.2
      refine gvI1 MX12_trustOf dX12_files_44 lX12_522 kX12_trustOf vX12_trustOf sh82 (by decide) rfl (Nat.le_of_ble_eq_true rfl) vc ?_
      intro v2 h2 vc
      obtain ⟨hR2, vc⟩ := vc
      replace hR := hR2.trans hR
      refine go_istore_n dX12_files_47 (Nat.le_of_ble_eq_true rfl) ?_
      show gg p l e s m args below meth c G (d + 1) MX12_files Q 48 [some (.ref 82), some (.int x1), some (.int x2), some (.int v2), some (.int (x4 + 1)), some (.int x5)] [] h2
      refine go_iinc (x := x5) dX12_files_48 rfl ?_
      show gg p l e s m args below meth c G (d + 1) MX12_files Q 51 [some (.ref 82), some (.int x1), some (.int x2), some (.int v2), some (.int (x4 + 1)), some (.int (x5 + 1))] [] h2
      refine go_goto 8 dX12_files_51 rfl ?_
      exact vc
    · replace vc := vc.2 q
      refine go_goto 48 dX12_files_30 rfl ?_
      refine go_iinc (x := x5) dX12_files_48 rfl ?_
      show gg p l e s m args below meth c G (d + 1) MX12_files Q 51 [some (.ref 82), some (.int x1), some (.int x2), some (.int x3), some (.int x4), some (.int (x5 + 1))] [] h1
      refine go_goto 8 dX12_files_51 rfl ?_
      exact vc
set_option maxRecDepth 20000 in
theorem wX12_isRow_0 {p : Program} {l : Launch} {e : Env} {s : State} {m : MethodId} {args : Array Value} {below : List Frame} {meth : Method} {c : Code} {G : gG} {d : Nat} {Q : Option Value → gH → Prop} {h : gH} {lk sp : Nat} {cd : Option Nat} {a1 : Int32} {a2 : Int32} {a3 : Int32} (hR : h.2.2 = gRF lk sp cd) (hlk : lk = 30 ∨ lk = 67) (hsp : sp = 30 ∨ sp = 67)  (vc : gg p l e s m args below meth c G d MX12_isRow Q 11 [some (.ref 82), some (.int a1), some (.int a2), some (.int a3), some (.int a1), some (.int 0), some (.int (a2 - 1))] [] h) : gg p l e s m args below meth c G d MX12_isRow Q 0 [some (.ref 82), some (.int a1), some (.int a2), some (.int a3), none, none, none] [] h := by
  refine go_iload_n (x := a1) dX12_isRow_0 rfl ?_
  refine go_istore dX12_isRow_1 (Nat.le_of_ble_eq_true rfl) ?_
  show gg p l e s m args below meth c G d MX12_isRow Q 3 [some (.ref 82), some (.int a1), some (.int a2), some (.int a3), some (.int a1), none, none] [] h
  refine go_iconst (v := 0) dX12_isRow_3 rfl ?_
  refine go_istore dX12_isRow_4 (Nat.le_of_ble_eq_true rfl) ?_
  show gg p l e s m args below meth c G d MX12_isRow Q 6 [some (.ref 82), some (.int a1), some (.int a2), some (.int a3), some (.int a1), some (.int 0), none] [] h
  refine go_iload_n (x := a2) dX12_isRow_6 rfl ?_
  refine go_iconst (v := 1) dX12_isRow_7 rfl ?_
  refine go_isub dX12_isRow_8 ?_
  refine go_istore dX12_isRow_9 (Nat.le_of_ble_eq_true rfl) ?_
  show gg p l e s m args below meth c G d MX12_isRow Q 11 [some (.ref 82), some (.int a1), some (.int a2), some (.int a3), some (.int a1), some (.int 0), some (.int (a2 - 1))] [] h
  exact vc
set_option maxRecDepth 20000 in
theorem wX12_isRow_11 {p : Program} {l : Launch} {e : Env} {s : State} {m : MethodId} {args : Array Value} {below : List Frame} {meth : Method} {c : Code} {G : gG} {d : Nat} {Q : Option Value → gH → Prop} {h : gH} {lk sp : Nat} {cd : Option Nat} {x1 : Int32} {x2 : Int32} {x3 : Int32} {x4 : Int32} {x5 : Int32} {x6 : Int32} (hR : h.2.2 = gRF lk sp cd) (hlk : lk = 30 ∨ lk = 67) (hsp : sp = 30 ∨ sp = 67)  (vc : ((x6 < 0 → ((¬ x5 = x3 → Q (some (.int 0)) h) ∧ (x5 = x3 → Q (some (.int 1)) h))) ∧ (¬ x6 < 0 → (vp_in x6 6 ∧ (vp_in x6 6 ∧ gg p l e s m args below meth c G d MX12_isRow Q 11 [some (.ref 82), some (.int x1), some (.int x2), some (.int x3), some (.int (x4 / 6)), some (.int (x5 ||| (1 <<< (((sI h 137 x6.toNatClampNeg (x4 - x4 / 6 * 6)).1 137 x6.toNatClampNeg) &&& 31)))), some (.int (x6 + (-1)))] [] (sI h 137 x6.toNatClampNeg (x4 - x4 / 6 * 6))))))) : gg p l e s m args below meth c G d MX12_isRow Q 11 [some (.ref 82), some (.int x1), some (.int x2), some (.int x3), some (.int x4), some (.int x5), some (.int x6)] [] h := by
  refine go_iload (x := x6) dX12_isRow_11 rfl ?_
  refine go_if_lt 55 dX12_isRow_13 rfl (fun q => ?_) (fun q => ?_)
  · replace vc := vc.1 q
    refine go_iload (x := x5) dX12_isRow_55 rfl ?_
    refine go_iload_n (x := x3) dX12_isRow_57 rfl ?_
    refine go_icmp_ne 65 dX12_isRow_58 rfl (fun q => ?_) (fun q => ?_)
    · replace vc := vc.1 q
      refine go_iconst (v := 0) dX12_isRow_65 rfl ?_
      exact go_zret dX12_isRow_66 rfl (by decide) vc rfl (Nat.le_refl _) (Nat.le_refl _)
    · replace vc := vc.2 q
      refine go_iconst (v := 1) dX12_isRow_61 rfl ?_
      refine go_goto 66 dX12_isRow_62 rfl ?_
      exact go_zret dX12_isRow_66 rfl (by decide) vc rfl (Nat.le_refl _) (Nat.le_refl _)
  · replace vc := vc.2 q
    refine go_aload_n (x := 82) dX12_isRow_16 rfl ?_
    refine go_getR (x := 137) dX12_isRow_17 f12_178 sh82 (fun _ _ => rfl) (rf82_72 hR) ?_
    refine go_iload (x := x6) dX12_isRow_20 rfl ?_
    refine go_iload (x := x4) dX12_isRow_22 rfl ?_
    refine go_bipush (v := 6) dX12_isRow_24 rfl ?_
    refine go_irem dX12_isRow_26 (by decide) ?_
    refine go_iast dX12_isRow_27 sh137 vc.1 ?_
    have vc := vc.2
    show gg p l e s m args below meth c G d MX12_isRow Q 28 [some (.ref 82), some (.int x1), some (.int x2), some (.int x3), some (.int x4), some (.int x5), some (.int x6)] [] (sI h 137 x6.toNatClampNeg (x4 - x4 / 6 * 6))
    refine go_iload (x := x4) dX12_isRow_28 rfl ?_
    refine go_bipush (v := 6) dX12_isRow_30 rfl ?_
    refine go_idiv dX12_isRow_32 (by decide) ?_
    refine go_istore dX12_isRow_33 (Nat.le_of_ble_eq_true rfl) ?_
    show gg p l e s m args below meth c G d MX12_isRow Q 35 [some (.ref 82), some (.int x1), some (.int x2), some (.int x3), some (.int (x4 / 6)), some (.int x5), some (.int x6)] [] (sI h 137 x6.toNatClampNeg (x4 - x4 / 6 * 6))
    refine go_iload (x := x5) dX12_isRow_35 rfl ?_
    refine go_iconst (v := 1) dX12_isRow_37 rfl ?_
    refine go_aload_n (x := 82) dX12_isRow_38 rfl ?_
    refine go_getR (x := 137) dX12_isRow_39 f12_178 sh82 (fun _ _ => rfl) (rf82_72 hR) ?_
    refine go_iload (x := x6) dX12_isRow_42 rfl ?_
    refine go_iald' (v := ((sI h 137 x6.toNatClampNeg (x4 - x4 / 6 * 6)).1 137 x6.toNatClampNeg)) dX12_isRow_44 sh137 vc.1 rfl ?_
    have vc := vc.2
    refine go_ishl dX12_isRow_45 ?_
    refine go_ior dX12_isRow_46 ?_
    refine go_istore dX12_isRow_47 (Nat.le_of_ble_eq_true rfl) ?_
    show gg p l e s m args below meth c G d MX12_isRow Q 49 [some (.ref 82), some (.int x1), some (.int x2), some (.int x3), some (.int (x4 / 6)), some (.int (x5 ||| (1 <<< (((sI h 137 x6.toNatClampNeg (x4 - x4 / 6 * 6)).1 137 x6.toNatClampNeg) &&& 31)))), some (.int x6)] [] (sI h 137 x6.toNatClampNeg (x4 - x4 / 6 * 6))
    refine go_iinc (x := x6) dX12_isRow_49 rfl ?_
    show gg p l e s m args below meth c G d MX12_isRow Q 52 [some (.ref 82), some (.int x1), some (.int x2), some (.int x3), some (.int (x4 / 6)), some (.int (x5 ||| (1 <<< (((sI h 137 x6.toNatClampNeg (x4 - x4 / 6 * 6)).1 137 x6.toNatClampNeg) &&& 31)))), some (.int (x6 + (-1)))] [] (sI h 137 x6.toNatClampNeg (x4 - x4 / 6 * 6))
    refine go_goto 11 dX12_isRow_52 rfl ?_
    exact vc
set_option maxRecDepth 20000 in
theorem wX12_order_0 {p : Program} {l : Launch} {e : Env} {s : State} {m : MethodId} {args : Array Value} {below : List Frame} {meth : Method} {c : Code} {G : gG} {d : Nat} {Q : Option Value → gH → Prop} {h : gH} {lk sp : Nat} {cd : Option Nat} {a1 : Int32} {a2 : Int32} {a3 : Int32} (hR : h.2.2 = gRF lk sp cd) (hlk : lk = 30 ∨ lk = 67) (hsp : sp = 30 ∨ sp = 67)  (vc : gC l G d MX12_canFile [.ref 82, .int a1, .int a2] h (rI fun v1 h1 => h1.2.2 = (h).2.2 ∧ ((v1 = 0 → Q (some (.int (-1))) h1) ∧ (¬ v1 = 0 → ((a3 < (-1) → Q (some (.int (-1))) h1) ∧ (¬ a3 < (-1) → gC l G d MX12_bits [.int a1] h1 (rI fun v2 h2 => h2.2.2 = (h1).2.2 ∧ ((a3 < v2 → gC l G d MX12_bits [.int a1] h2 (rI fun v3 h3 => h3.2.2 = (h2).2.2 ∧ gg p l e s m args below meth c G (d + 1) MX12_order Q 36 [some (.ref 82), some (.int a1), some (.int a2), some (.int a3), some (.int v3), some (.int 1), some (.int 0), none, none, none] [] h3)) ∧ (¬ a3 < v2 → Q (some (.int (-1))) h2))))))))) : gg p l e s m args below meth c G (d + 1) MX12_order Q 0 [some (.ref 82), some (.int a1), some (.int a2), some (.int a3), none, none, none, none, none, none] [] h := by
  refine go_aload_n (x := 82) dX12_order_0 rfl ?_
  refine go_iload_n (x := a1) dX12_order_1 rfl ?_
  refine go_iload_n (x := a2) dX12_order_2 rfl ?_
  refine gvI2 MX12_canFile dX12_order_3 lX12_615 kX12_canFile vX12_canFile sh82 (by decide) rfl (Nat.le_of_ble_eq_true rfl) vc ?_
  intro v1 h1 vc
  obtain ⟨hR1, vc⟩ := vc
  replace hR := hR1.trans hR
  refine go_if_eq 22 dX12_order_6 rfl (fun q => ?_) (fun q => ?_)
  · replace vc := vc.1 q
    refine go_iconst (v := (-1)) dX12_order_22 rfl ?_
    exact go_iret dX12_order_23 rfl vc rfl (Nat.le_refl _) (Nat.le_refl _)
  · replace vc := vc.2 q
    refine go_iload_n (x := a3) dX12_order_9 rfl ?_
    refine go_iconst (v := (-1)) dX12_order_10 rfl ?_
    refine go_icmp_lt 22 dX12_order_11 rfl (fun q => ?_) (fun q => ?_)
    · replace vc := vc.1 q
      refine go_iconst (v := (-1)) dX12_order_22 rfl ?_
      exact go_iret dX12_order_23 rfl vc rfl (Nat.le_refl _) (Nat.le_refl _)
    · replace vc := vc.2 q
      refine go_iload_n (x := a3) dX12_order_14 rfl ?_
      refine go_iload_n (x := a1) dX12_order_15 rfl ?_
      refine gsI1 MX12_bits dX12_order_16 lX12_618 kX12_bits sX12_bits (Nat.le_of_ble_eq_true rfl) vc ?_
      intro v2 h2 vc
      obtain ⟨hR2, vc⟩ := vc
      replace hR := hR2.trans hR
      refine go_icmp_lt 24 dX12_order_19 rfl (fun q => ?_) (fun q => ?_)
      · replace vc := vc.1 q
        refine go_iload_n (x := a1) dX12_order_24 rfl ?_
        refine gsI1 MX12_bits dX12_order_25 lX12_618 kX12_bits sX12_bits (Nat.le_of_ble_eq_true rfl) vc ?_
        intro v3 h3 vc
        obtain ⟨hR3, vc⟩ := vc
        replace hR := hR3.trans hR
        refine go_istore dX12_order_28 (Nat.le_of_ble_eq_true rfl) ?_
        show gg p l e s m args below meth c G (d + 1) MX12_order Q 30 [some (.ref 82), some (.int a1), some (.int a2), some (.int a3), some (.int v3), none, none, none, none, none] [] h3
        refine go_iconst (v := 1) dX12_order_30 rfl ?_
        refine go_istore dX12_order_31 (Nat.le_of_ble_eq_true rfl) ?_
        show gg p l e s m args below meth c G (d + 1) MX12_order Q 33 [some (.ref 82), some (.int a1), some (.int a2), some (.int a3), some (.int v3), some (.int 1), none, none, none, none] [] h3
        refine go_iconst (v := 0) dX12_order_33 rfl ?_
        refine go_istore dX12_order_34 (Nat.le_of_ble_eq_true rfl) ?_
        show gg p l e s m args below meth c G (d + 1) MX12_order Q 36 [some (.ref 82), some (.int a1), some (.int a2), some (.int a3), some (.int v3), some (.int 1), some (.int 0), none, none, none] [] h3
        exact vc
      · replace vc := vc.2 q
        refine go_iconst (v := (-1)) dX12_order_22 rfl ?_
        exact go_iret dX12_order_23 rfl vc rfl (Nat.le_refl _) (Nat.le_refl _)
set_option maxRecDepth 20000 in
theorem wX12_order_36 {p : Program} {l : Launch} {e : Env} {s : State} {m : MethodId} {args : Array Value} {below : List Frame} {meth : Method} {c : Code} {G : gG} {d : Nat} {Q : Option Value → gH → Prop} {h : gH} {lk sp : Nat} {cd : Option Nat} {x1 : Int32} {x2 : Int32} {x3 : Int32} {x4 : Int32} {x5 : Int32} {x6 : Int32} (hR : h.2.2 = gRF lk sp cd) (hlk : lk = 30 ∨ lk = 67) (hsp : sp = 30 ∨ sp = 67)  (vc : ((x4 ≤ x6 → gC l G d MX12_putsAside [.ref 82] h (rV fun h1 => h1.2.2 = (h).2.2 ∧ gg p l e s m args below meth c G (d + 1) MX12_order Q 66 [some (.ref 82), some (.int x1), some (.int x2), some (.int x3), some (.int x4), some (.int x5), some (.int (-1)), some (.int 0), none, none] [] h1)) ∧ (¬ x4 ≤ x6 → gg p l e s m args below meth c G (d + 1) MX12_order Q 36 [some (.ref 82), some (.int x1), some (.int x2), some (.int x3), some (.int x4), some (.int (x5 * 6)), some (.int (x6 + 1)), none, none, none] [] h))) : gg p l e s m args below meth c G (d + 1) MX12_order Q 36 [some (.ref 82), some (.int x1), some (.int x2), some (.int x3), some (.int x4), some (.int x5), some (.int x6), none, none, none] [] h := by
  refine go_iload (x := x6) dX12_order_36 rfl ?_
  refine go_iload (x := x4) dX12_order_38 rfl ?_
  refine go_icmp_ge 56 dX12_order_40 rfl (fun q => ?_) (fun q => ?_)
  · replace vc := vc.1 q
    refine go_iconst (v := (-1)) dX12_order_56 rfl ?_
    refine go_istore dX12_order_57 (Nat.le_of_ble_eq_true rfl) ?_
    show gg p l e s m args below meth c G (d + 1) MX12_order Q 59 [some (.ref 82), some (.int x1), some (.int x2), some (.int x3), some (.int x4), some (.int x5), some (.int (-1)), none, none, none] [] h
    refine go_aload_n (x := 82) dX12_order_59 rfl ?_
    refine gvV0 MX12_putsAside dX12_order_60 lX12_621 kX12_putsAside vX12_putsAside sh82 (by decide) rfl (Nat.le_of_ble_eq_true rfl) vc ?_
    intro h1 vc
    obtain ⟨hR1, vc⟩ := vc
    replace hR := hR1.trans hR
    refine go_iconst (v := 0) dX12_order_63 rfl ?_
    refine go_istore dX12_order_64 (Nat.le_of_ble_eq_true rfl) ?_
    show gg p l e s m args below meth c G (d + 1) MX12_order Q 66 [some (.ref 82), some (.int x1), some (.int x2), some (.int x3), some (.int x4), some (.int x5), some (.int (-1)), some (.int 0), none, none] [] h1
    exact vc
  · replace vc := vc.2 q
    refine go_iload (x := x5) dX12_order_43 rfl ?_
    refine go_bipush (v := 6) dX12_order_45 rfl ?_
    refine go_imul dX12_order_47 ?_
    refine go_istore dX12_order_48 (Nat.le_of_ble_eq_true rfl) ?_
    show gg p l e s m args below meth c G (d + 1) MX12_order Q 50 [some (.ref 82), some (.int x1), some (.int x2), some (.int x3), some (.int x4), some (.int (x5 * 6)), some (.int x6), none, none, none] [] h
    refine go_iinc (x := x6) dX12_order_50 rfl ?_
    show gg p l e s m args below meth c G (d + 1) MX12_order Q 53 [some (.ref 82), some (.int x1), some (.int x2), some (.int x3), some (.int x4), some (.int (x5 * 6)), some (.int (x6 + 1)), none, none, none] [] h
    refine go_goto 36 dX12_order_53 rfl ?_
    exact vc
set_option maxRecDepth 20000 in
theorem wX12_order_66 {p : Program} {l : Launch} {e : Env} {s : State} {m : MethodId} {args : Array Value} {below : List Frame} {meth : Method} {c : Code} {G : gG} {d : Nat} {Q : Option Value → gH → Prop} {h : gH} {lk sp : Nat} {cd : Option Nat} {x1 : Int32} {x2 : Int32} {x3 : Int32} {x4 : Int32} {x5 : Int32} {x6 : Int32} {x7 : Int32} (hR : h.2.2 = gRF lk sp cd) (hlk : lk = 30 ∨ lk = 67) (hsp : sp = 30 ∨ sp = 67)  (vc : ((x5 ≤ x7 → ((¬ x3 = (-1) → (vp_in x3 6 ∧ Q (some (.int (h.1 138 x3.toNatClampNeg))) h)) ∧ (x3 = (-1) → Q (some (.int x6)) h))) ∧ (¬ x5 ≤ x7 → gC l G d MX12_isRow [.ref 82, .int x7, .int x4, .int x1] h (rI fun v1 h1 => h1.2.2 = (h).2.2 ∧ ((¬ v1 = 0 → gC l G d MX12_files [.ref 82, .int x4, .int x2] h1 (rI fun v2 h2 => h2.2.2 = (h1).2.2 ∧ gC l G d MX12_takesBack [.ref 82] h2 (rV fun h3 => h3.2.2 = (h2).2.2 ∧ ((x6 < v2 → gg p l e s m args below meth c G (d + 1) MX12_order Q 118 [some (.ref 82), some (.int x1), some (.int x2), some (.int x3), some (.int x4), some (.int x5), some (.int v2), some (.int x7), some (.int v2), some (.int 0)] [] h3) ∧ (¬ x6 < v2 → gg p l e s m args below meth c G (d + 1) MX12_order Q 66 [some (.ref 82), some (.int x1), some (.int x2), some (.int x3), some (.int x4), some (.int x5), some (.int x6), some (.int (x7 + 1)), none, none] [] h3))))) ∧ (v1 = 0 → gg p l e s m args below meth c G (d + 1) MX12_order Q 66 [some (.ref 82), some (.int x1), some (.int x2), some (.int x3), some (.int x4), some (.int x5), some (.int x6), some (.int (x7 + 1)), none, none] [] h1)))))) : gg p l e s m args below meth c G (d + 1) MX12_order Q 66 [some (.ref 82), some (.int x1), some (.int x2), some (.int x3), some (.int x4), some (.int x5), some (.int x6), some (.int x7), none, none] [] h := by
  refine go_iload (x := x7) dX12_order_66 rfl ?_
  refine go_iload (x := x5) dX12_order_68 rfl ?_
  refine go_icmp_ge 151 dX12_order_70 rfl (fun q => ?_) (fun q => ?_)
  · replace vc := vc.1 q
    refine go_iload_n (x := x3) dX12_order_151 rfl ?_
    refine go_iconst (v := (-1)) dX12_order_152 rfl ?_
    refine go_icmp_ne 161 dX12_order_153 rfl (fun q => ?_) (fun q => ?_)
    · replace vc := vc.1 q
      refine go_aload_n (x := 82) dX12_order_161 rfl ?_
      refine go_getR (x := 138) dX12_order_162 f12_181 sh82 (fun _ _ => rfl) (rf82_73 hR) ?_
      refine go_iload_n (x := x3) dX12_order_165 rfl ?_
      refine go_iald' (v := (h.1 138 x3.toNatClampNeg)) dX12_order_166 sh138 vc.1 rfl ?_
      have vc := vc.2
      exact go_iret dX12_order_167 rfl vc rfl (Nat.le_refl _) (Nat.le_refl _)
    · replace vc := vc.2 q
      refine go_iload (x := x6) dX12_order_156 rfl ?_
      refine go_goto 167 dX12_order_158 rfl ?_
      exact go_iret dX12_order_167 rfl vc rfl (Nat.le_refl _) (Nat.le_refl _)
  · replace vc := vc.2 q
    refine go_aload_n (x := 82) dX12_order_73 rfl ?_
    refine go_iload (x := x7) dX12_order_74 rfl ?_
    refine go_iload (x := x4) dX12_order_76 rfl ?_
    refine go_iload_n (x := x1) dX12_order_78 rfl ?_
    refine gvI3 MX12_isRow dX12_order_79 lX12_624 kX12_isRow vX12_isRow sh82 (by decide) rfl (Nat.le_of_ble_eq_true rfl) vc ?_
    intro v1 h1 vc
    obtain ⟨hR1, vc⟩ := vc
    replace hR := hR1.trans hR
    refine go_if_ne 88 dX12_order_82 rfl (fun q => ?_) (fun q => ?_)
    · replace vc := vc.1 q
      refine go_aload_n (x := 82) dX12_order_88 rfl ?_
      refine go_iload (x := x4) dX12_order_89 rfl ?_
      refine go_iload_n (x := x2) dX12_order_91 rfl ?_
      refine gvI2 MX12_files dX12_order_92 lX12_627 kX12_files vX12_files sh82 (by decide) rfl (Nat.le_of_ble_eq_true rfl) vc ?_
      intro v2 h2 vc
      obtain ⟨hR2, vc⟩ := vc
      replace hR := hR2.trans hR
      refine go_istore dX12_order_95 (Nat.le_of_ble_eq_true rfl) ?_
      show gg p l e s m args below meth c G (d + 1) MX12_order Q 97 [some (.ref 82), some (.int x1), some (.int x2), some (.int x3), some (.int x4), some (.int x5), some (.int x6), some (.int x7), some (.int v2), none] [] h2
      refine go_aload_n (x := 82) dX12_order_97 rfl ?_
      refine gvV0 MX12_takesBack dX12_order_98 lX12_630 kX12_takesBack vX12_takesBack sh82 (by decide) rfl (Nat.le_of_ble_eq_true rfl) vc ?_
      intro h3 vc
      obtain ⟨hR3, vc⟩ := vc
      replace hR := hR3.trans hR
      refine go_iload (x := v2) dX12_order_101 rfl ?_
      refine go_iload (x := x6) dX12_order_103 rfl ?_
      refine go_icmp_gt 111 dX12_order_105 rfl (fun q => ?_) (fun q => ?_)
      · replace vc := vc.1 q
        refine go_iload (x := v2) dX12_order_111 rfl ?_
        refine go_istore dX12_order_113 (Nat.le_of_ble_eq_true rfl) ?_
        show gg p l e s m args below meth c G (d + 1) MX12_order Q 115 [some (.ref 82), some (.int x1), some (.int x2), some (.int x3), some (.int x4), some (.int x5), some (.int v2), some (.int x7), some (.int v2), none] [] h3
        refine go_iconst (v := 0) dX12_order_115 rfl ?_
        refine go_istore dX12_order_116 (Nat.le_of_ble_eq_true rfl) ?_
        show gg p l e s m args below meth c G (d + 1) MX12_order Q 118 [some (.ref 82), some (.int x1), some (.int x2), some (.int x3), some (.int x4), some (.int x5), some (.int v2), some (.int x7), some (.int v2), some (.int 0)] [] h3
        exact vc
      · replace vc := vc.2 q
        refine go_goto 145 dX12_order_108 rfl ?_
        refine go_iinc (x := x7) dX12_order_145 rfl ?_
        show gg p l e s m args below meth c G (d + 1) MX12_order Q 148 [some (.ref 82), some (.int x1), some (.int x2), some (.int x3), some (.int x4), some (.int x5), some (.int x6), some (.int (x7 + 1)), some (.int v2), none] [] h3
        refine go_goto 66 dX12_order_148 rfl ?_
        refine go_weak (ls' := [some (.ref 82), some (.int x1), some (.int x2), some (.int x3), some (.int x4), some (.int x5), some (.int x6), some (.int (x7 + 1)), none, none]) ?_ vc
        exact (⟨rfl, ⟨rfl, ⟨rfl, ⟨rfl, ⟨rfl, ⟨rfl, ⟨rfl, ⟨rfl, trivial⟩⟩⟩⟩⟩⟩⟩⟩)
    · replace vc := vc.2 q
      refine go_goto 145 dX12_order_85 rfl ?_
      refine go_iinc (x := x7) dX12_order_145 rfl ?_
      show gg p l e s m args below meth c G (d + 1) MX12_order Q 148 [some (.ref 82), some (.int x1), some (.int x2), some (.int x3), some (.int x4), some (.int x5), some (.int x6), some (.int (x7 + 1)), none, none] [] h1
      refine go_goto 66 dX12_order_148 rfl ?_
      exact vc
set_option maxRecDepth 20000 in
theorem wX12_order_118 {p : Program} {l : Launch} {e : Env} {s : State} {m : MethodId} {args : Array Value} {below : List Frame} {meth : Method} {c : Code} {G : gG} {d : Nat} {Q : Option Value → gH → Prop} {h : gH} {lk sp : Nat} {cd : Option Nat} {x1 : Int32} {x2 : Int32} {x3 : Int32} {x4 : Int32} {x5 : Int32} {x6 : Int32} {x7 : Int32} {x8 : Int32} {x9 : Int32} (hR : h.2.2 = gRF lk sp cd) (hlk : lk = 30 ∨ lk = 67) (hsp : sp = 30 ∨ sp = 67)  (vc : ((x4 ≤ x9 → gg p l e s m args below meth c G (d + 1) MX12_order Q 66 [some (.ref 82), some (.int x1), some (.int x2), some (.int x3), some (.int x4), some (.int x5), some (.int x6), some (.int (x7 + 1)), none, none] [] h) ∧ (¬ x4 ≤ x9 → (vp_in x9 6 ∧ (vp_in x9 6 ∧ gg p l e s m args below meth c G (d + 1) MX12_order Q 118 [some (.ref 82), some (.int x1), some (.int x2), some (.int x3), some (.int x4), some (.int x5), some (.int x6), some (.int x7), some (.int x8), some (.int (x9 + 1))] [] (sI h 138 x9.toNatClampNeg (h.1 137 x9.toNatClampNeg))))))) : gg p l e s m args below meth c G (d + 1) MX12_order Q 118 [some (.ref 82), some (.int x1), some (.int x2), some (.int x3), some (.int x4), some (.int x5), some (.int x6), some (.int x7), some (.int x8), some (.int x9)] [] h := by
  refine go_iload (x := x9) dX12_order_118 rfl ?_
  refine go_iload (x := x4) dX12_order_120 rfl ?_
  refine go_icmp_ge 145 dX12_order_122 rfl (fun q => ?_) (fun q => ?_)
  · replace vc := vc.1 q
    refine go_iinc (x := x7) dX12_order_145 rfl ?_
    show gg p l e s m args below meth c G (d + 1) MX12_order Q 148 [some (.ref 82), some (.int x1), some (.int x2), some (.int x3), some (.int x4), some (.int x5), some (.int x6), some (.int (x7 + 1)), some (.int x8), some (.int x9)] [] h
    refine go_goto 66 dX12_order_148 rfl ?_
    refine go_weak (ls' := [some (.ref 82), some (.int x1), some (.int x2), some (.int x3), some (.int x4), some (.int x5), some (.int x6), some (.int (x7 + 1)), none, none]) ?_ vc
    exact (⟨rfl, ⟨rfl, ⟨rfl, ⟨rfl, ⟨rfl, ⟨rfl, ⟨rfl, ⟨rfl, trivial⟩⟩⟩⟩⟩⟩⟩⟩)
  · replace vc := vc.2 q
    refine go_aload_n (x := 82) dX12_order_125 rfl ?_
    refine go_getR (x := 138) dX12_order_126 f12_181 sh82 (fun _ _ => rfl) (rf82_73 hR) ?_
    refine go_iload (x := x9) dX12_order_129 rfl ?_
    refine go_aload_n (x := 82) dX12_order_131 rfl ?_
    refine go_getR (x := 137) dX12_order_132 f12_178 sh82 (fun _ _ => rfl) (rf82_72 hR) ?_
    refine go_iload (x := x9) dX12_order_135 rfl ?_
    refine go_iald' (v := (h.1 137 x9.toNatClampNeg)) dX12_order_137 sh137 vc.1 rfl ?_
    have vc := vc.2
    refine go_iast dX12_order_138 sh138 vc.1 ?_
    have vc := vc.2
    show gg p l e s m args below meth c G (d + 1) MX12_order Q 139 [some (.ref 82), some (.int x1), some (.int x2), some (.int x3), some (.int x4), some (.int x5), some (.int x6), some (.int x7), some (.int x8), some (.int x9)] [] (sI h 138 x9.toNatClampNeg (h.1 137 x9.toNatClampNeg))
    refine go_iinc (x := x9) dX12_order_139 rfl ?_
    show gg p l e s m args below meth c G (d + 1) MX12_order Q 142 [some (.ref 82), some (.int x1), some (.int x2), some (.int x3), some (.int x4), some (.int x5), some (.int x6), some (.int x7), some (.int x8), some (.int (x9 + 1))] [] (sI h 138 x9.toNatClampNeg (h.1 137 x9.toNatClampNeg))
    refine go_goto 118 dX12_order_142 rfl ?_
    exact vc
set_option maxRecDepth 20000 in
theorem wX12_behindIt_0 {p : Program} {l : Launch} {e : Env} {s : State} {m : MethodId} {args : Array Value} {below : List Frame} {meth : Method} {c : Code} {G : gG} {d : Nat} {Q : Option Value → gH → Prop} {h : gH} {lk sp : Nat} {cd : Option Nat} {a1 : Int32} {a2 : Int32} {a3 : Int32} (hR : h.2.2 = gRF lk sp cd) (hlk : lk = 30 ∨ lk = 67) (hsp : sp = 30 ∨ sp = 67)  (vc : gC l G d MX12_learnt [.ref 82, .int a2, .int a3, .int (-1), .int 1] h (rI fun v1 h1 => h1.2.2 = (h).2.2 ∧ gg p l e s m args below meth c G (d + 1) MX12_behindIt Q 16 [some (.ref 82), some (.int a1), some (.int a2), some (.int a3), some (.int v1), some (.int 1), some (.int 0)] [] h1)) : gg p l e s m args below meth c G (d + 1) MX12_behindIt Q 0 [some (.ref 82), some (.int a1), some (.int a2), some (.int a3), none, none, none] [] h := by
  refine go_aload_n (x := 82) dX12_behindIt_0 rfl ?_
  refine go_iload_n (x := a2) dX12_behindIt_1 rfl ?_
  refine go_iload_n (x := a3) dX12_behindIt_2 rfl ?_
  refine go_iconst (v := (-1)) dX12_behindIt_3 rfl ?_
  refine go_iconst (v := 1) dX12_behindIt_4 rfl ?_
  refine gvI4 MX12_learnt dX12_behindIt_5 lX12_548 kX12_learnt vX12_learnt sh82 (by decide) rfl (Nat.le_of_ble_eq_true rfl) vc ?_
  intro v1 h1 vc
  obtain ⟨hR1, vc⟩ := vc
  replace hR := hR1.trans hR
  refine go_istore dX12_behindIt_8 (Nat.le_of_ble_eq_true rfl) ?_
  show gg p l e s m args below meth c G (d + 1) MX12_behindIt Q 10 [some (.ref 82), some (.int a1), some (.int a2), some (.int a3), some (.int v1), none, none] [] h1
  refine go_iconst (v := 1) dX12_behindIt_10 rfl ?_
  refine go_istore dX12_behindIt_11 (Nat.le_of_ble_eq_true rfl) ?_
  show gg p l e s m args below meth c G (d + 1) MX12_behindIt Q 13 [some (.ref 82), some (.int a1), some (.int a2), some (.int a3), some (.int v1), some (.int 1), none] [] h1
  refine go_iconst (v := 0) dX12_behindIt_13 rfl ?_
  refine go_istore dX12_behindIt_14 (Nat.le_of_ble_eq_true rfl) ?_
  show gg p l e s m args below meth c G (d + 1) MX12_behindIt Q 16 [some (.ref 82), some (.int a1), some (.int a2), some (.int a3), some (.int v1), some (.int 1), some (.int 0)] [] h1
  exact vc
set_option maxRecDepth 20000 in
theorem wX12_behindIt_16 {p : Program} {l : Launch} {e : Env} {s : State} {m : MethodId} {args : Array Value} {below : List Frame} {meth : Method} {c : Code} {G : gG} {d : Nat} {Q : Option Value → gH → Prop} {h : gH} {lk sp : Nat} {cd : Option Nat} {x1 : Int32} {x2 : Int32} {x3 : Int32} {x4 : Int32} {x5 : Int32} {x6 : Int32} (hR : h.2.2 = gRF lk sp cd) (hlk : lk = 30 ∨ lk = 67) (hsp : sp = 30 ∨ sp = 67)  (vc : gC l G d MX12_boatMany [.ref 82] h (rI fun v1 h1 => h1.2.2 = (h).2.2 ∧ ((v1 ≤ x6 → Q (some (.int x5)) h1) ∧ (¬ v1 ≤ x6 → ((x6 = x2 → gg p l e s m args below meth c G (d + 1) MX12_behindIt Q 16 [some (.ref 82), some (.int x1), some (.int x2), some (.int x3), some (.int x4), some (.int x5), some (.int (x6 + 1))] [] h1) ∧ (¬ x6 = x2 → ((¬ ((x1 >>> (x6 &&& 31)) &&& 1) = 1 → gg p l e s m args below meth c G (d + 1) MX12_behindIt Q 16 [some (.ref 82), some (.int x1), some (.int x2), some (.int x3), some (.int x4), some (.int x5), some (.int (x6 + 1))] [] h1) ∧ (((x1 >>> (x6 &&& 31)) &&& 1) = 1 → gC l G d MX12_wouldGo [.ref 82, .int x6, .int x3, .int x4] h1 (rI fun v2 h2 => h2.2.2 = (h1).2.2 ∧ ((v2 = 0 → gg p l e s m args below meth c G (d + 1) MX12_behindIt Q 16 [some (.ref 82), some (.int x1), some (.int x2), some (.int x3), some (.int x4), some (.int x5), some (.int (x6 + 1))] [] h2) ∧ (¬ v2 = 0 → gg p l e s m args below meth c G (d + 1) MX12_behindIt Q 16 [some (.ref 82), some (.int x1), some (.int x2), some (.int x3), some (.int x4), some (.int (x5 + 1)), some (.int (x6 + 1))] [] h2))))))))))) : gg p l e s m args below meth c G (d + 1) MX12_behindIt Q 16 [some (.ref 82), some (.int x1), some (.int x2), some (.int x3), some (.int x4), some (.int x5), some (.int x6)] [] h := by
  refine go_iload (x := x6) dX12_behindIt_16 rfl ?_
  refine go_aload_n (x := 82) dX12_behindIt_18 rfl ?_
  refine gvI0 MX12_boatMany dX12_behindIt_19 lX12_483 kX12_boatMany vX12_boatMany sh82 (by decide) rfl (Nat.le_of_ble_eq_true rfl) vc ?_
  intro v1 h1 vc
  obtain ⟨hR1, vc⟩ := vc
  replace hR := hR1.trans hR
  refine go_icmp_ge 62 dX12_behindIt_22 rfl (fun q => ?_) (fun q => ?_)
  · replace vc := vc.1 q
    refine go_iload (x := x5) dX12_behindIt_62 rfl ?_
    exact go_iret dX12_behindIt_64 rfl vc rfl (Nat.le_refl _) (Nat.le_refl _)
  · replace vc := vc.2 q
    refine go_iload (x := x6) dX12_behindIt_25 rfl ?_
    refine go_iload_n (x := x2) dX12_behindIt_27 rfl ?_
    refine go_icmp_eq 56 dX12_behindIt_28 rfl (fun q => ?_) (fun q => ?_)
    · replace vc := vc.1 q
      refine go_iinc (x := x6) dX12_behindIt_56 rfl ?_
      show gg p l e s m args below meth c G (d + 1) MX12_behindIt Q 59 [some (.ref 82), some (.int x1), some (.int x2), some (.int x3), some (.int x4), some (.int x5), some (.int (x6 + 1))] [] h1
      refine go_goto 16 dX12_behindIt_59 rfl ?_
      exact vc
    · replace vc := vc.2 q
      refine go_iload_n (x := x1) dX12_behindIt_31 rfl ?_
      refine go_iload (x := x6) dX12_behindIt_32 rfl ?_
      refine go_ishr dX12_behindIt_34 ?_
      refine go_iconst (v := 1) dX12_behindIt_35 rfl ?_
      refine go_iand dX12_behindIt_36 ?_
      refine go_iconst (v := 1) dX12_behindIt_37 rfl ?_
      refine go_icmp_ne 56 dX12_behindIt_38 rfl (fun q => ?_) (fun q => ?_)
      · replace vc := vc.1 q
        refine go_iinc (x := x6) dX12_behindIt_56 rfl ?_
        show gg p l e s m args below meth c G (d + 1) MX12_behindIt Q 59 [some (.ref 82), some (.int x1), some (.int x2), some (.int x3), some (.int x4), some (.int x5), some (.int (x6 + 1))] [] h1
        refine go_goto 16 dX12_behindIt_59 rfl ?_
        exact vc
      · replace vc := vc.2 q
        refine go_aload_n (x := 82) dX12_behindIt_41 rfl ?_
        refine go_iload (x := x6) dX12_behindIt_42 rfl ?_
        refine go_iload_n (x := x3) dX12_behindIt_44 rfl ?_
        refine go_iload (x := x4) dX12_behindIt_45 rfl ?_
        refine gvI3 MX12_wouldGo dX12_behindIt_47 lX12_545 kX12_wouldGo vX12_wouldGo sh82 (by decide) rfl (Nat.le_of_ble_eq_true rfl) vc ?_
        intro v2 h2 vc
        obtain ⟨hR2, vc⟩ := vc
        replace hR := hR2.trans hR
        refine go_if_eq 56 dX12_behindIt_50 rfl (fun q => ?_) (fun q => ?_)
        · replace vc := vc.1 q
          refine go_iinc (x := x6) dX12_behindIt_56 rfl ?_
          show gg p l e s m args below meth c G (d + 1) MX12_behindIt Q 59 [some (.ref 82), some (.int x1), some (.int x2), some (.int x3), some (.int x4), some (.int x5), some (.int (x6 + 1))] [] h2
          refine go_goto 16 dX12_behindIt_59 rfl ?_
          exact vc
        · replace vc := vc.2 q
          refine go_iinc (x := x5) dX12_behindIt_53 rfl ?_
          show gg p l e s m args below meth c G (d + 1) MX12_behindIt Q 56 [some (.ref 82), some (.int x1), some (.int x2), some (.int x3), some (.int x4), some (.int (x5 + 1)), some (.int x6)] [] h2
          refine go_iinc (x := x6) dX12_behindIt_56 rfl ?_
          show gg p l e s m args below meth c G (d + 1) MX12_behindIt Q 59 [some (.ref 82), some (.int x1), some (.int x2), some (.int x3), some (.int x4), some (.int (x5 + 1)), some (.int (x6 + 1))] [] h2
          refine go_goto 16 dX12_behindIt_59 rfl ?_
          exact vc
set_option maxRecDepth 20000 in
theorem wX12_lead_0 {p : Program} {l : Launch} {e : Env} {s : State} {m : MethodId} {args : Array Value} {below : List Frame} {meth : Method} {c : Code} {G : gG} {d : Nat} {Q : Option Value → gH → Prop} {h : gH} {lk sp : Nat} {cd : Option Nat} {a1 : Int32} {a2 : Int32} {a3 : Int32} (hR : h.2.2 = gRF lk sp cd) (hlk : lk = 30 ∨ lk = 67) (hsp : sp = 30 ∨ sp = 67)  (vc : gC l G d MX12_canFile [.ref 82, .int a1, .int a2] h (rI fun v1 h1 => h1.2.2 = (h).2.2 ∧ ((v1 = 0 → Q (some (.int (-1))) h1) ∧ (¬ v1 = 0 → gC l G d MX12_isIn [.long (a3 : Int32).toInt64, .long 0, .long 1] h1 (rI fun v2 h2 => h2.2.2 = (h1).2.2 ∧ ((¬ v2 = 0 → gg p l e s m args below meth c G (d + 1) MX12_lead Q 30 [some (.ref 82), some (.int a1), some (.int a2), some (.int a3), some (.int (-1)), some (.int (-1)), some (.int 0), none] [] h2) ∧ (v2 = 0 → Q (some (.int (-1))) h2))))))) : gg p l e s m args below meth c G (d + 1) MX12_lead Q 0 [some (.ref 82), some (.int a1), some (.int a2), some (.int a3), none, none, none, none] [] h := by
  refine go_aload_n (x := 82) dX12_lead_0 rfl ?_
  refine go_iload_n (x := a1) dX12_lead_1 rfl ?_
  refine go_iload_n (x := a2) dX12_lead_2 rfl ?_
  refine gvI2 MX12_canFile dX12_lead_3 lX12_615 kX12_canFile vX12_canFile sh82 (by decide) rfl (Nat.le_of_ble_eq_true rfl) vc ?_
  intro v1 h1 vc
  obtain ⟨hR1, vc⟩ := vc
  replace hR := hR1.trans hR
  refine go_if_eq 19 dX12_lead_6 rfl (fun q => ?_) (fun q => ?_)
  · replace vc := vc.1 q
    refine go_iconst (v := (-1)) dX12_lead_19 rfl ?_
    exact go_iret dX12_lead_20 rfl vc rfl (Nat.le_refl _) (Nat.le_refl _)
  · replace vc := vc.2 q
    refine go_iload_n (x := a3) dX12_lead_9 rfl ?_
    refine go_i2l dX12_lead_10 ?_
    refine go_lconst (v := 0) dX12_lead_11 rfl ?_
    refine go_lconst (v := 1) dX12_lead_12 rfl ?_
    refine gsI3 MX12_isIn dX12_lead_13 lX12_321 kX12_isIn sX12_isIn (Nat.le_of_ble_eq_true rfl) vc ?_
    intro v2 h2 vc
    obtain ⟨hR2, vc⟩ := vc
    replace hR := hR2.trans hR
    refine go_if_ne 21 dX12_lead_16 rfl (fun q => ?_) (fun q => ?_)
    · replace vc := vc.1 q
      refine go_iconst (v := (-1)) dX12_lead_21 rfl ?_
      refine go_istore dX12_lead_22 (Nat.le_of_ble_eq_true rfl) ?_
      show gg p l e s m args below meth c G (d + 1) MX12_lead Q 24 [some (.ref 82), some (.int a1), some (.int a2), some (.int a3), some (.int (-1)), none, none, none] [] h2
      refine go_iconst (v := (-1)) dX12_lead_24 rfl ?_
      refine go_istore dX12_lead_25 (Nat.le_of_ble_eq_true rfl) ?_
      show gg p l e s m args below meth c G (d + 1) MX12_lead Q 27 [some (.ref 82), some (.int a1), some (.int a2), some (.int a3), some (.int (-1)), some (.int (-1)), none, none] [] h2
      refine go_iconst (v := 0) dX12_lead_27 rfl ?_
      refine go_istore dX12_lead_28 (Nat.le_of_ble_eq_true rfl) ?_
      show gg p l e s m args below meth c G (d + 1) MX12_lead Q 30 [some (.ref 82), some (.int a1), some (.int a2), some (.int a3), some (.int (-1)), some (.int (-1)), some (.int 0), none] [] h2
      exact vc
    · replace vc := vc.2 q
      refine go_iconst (v := (-1)) dX12_lead_19 rfl ?_
      exact go_iret dX12_lead_20 rfl vc rfl (Nat.le_refl _) (Nat.le_refl _)
set_option maxRecDepth 20000 in
theorem wX12_lead_30 {p : Program} {l : Launch} {e : Env} {s : State} {m : MethodId} {args : Array Value} {below : List Frame} {meth : Method} {c : Code} {G : gG} {d : Nat} {Q : Option Value → gH → Prop} {h : gH} {lk sp : Nat} {cd : Option Nat} {x1 : Int32} {x2 : Int32} {x3 : Int32} {x4 : Int32} {x5 : Int32} {x6 : Int32} (hR : h.2.2 = gRF lk sp cd) (hlk : lk = 30 ∨ lk = 67) (hsp : sp = 30 ∨ sp = 67)  (vc : gC l G d MX12_boatMany [.ref 82] h (rI fun v1 h1 => h1.2.2 = (h).2.2 ∧ ((v1 ≤ x6 → ((¬ x3 = 0 → Q (some (.int x5)) h1) ∧ (x3 = 0 → Q (some (.int x4)) h1))) ∧ (¬ v1 ≤ x6 → ((((x1 >>> (x6 &&& 31)) &&& 1) = 0 → gg p l e s m args below meth c G (d + 1) MX12_lead Q 30 [some (.ref 82), some (.int x1), some (.int x2), some (.int x3), some (.int x4), some (.int x5), some (.int (x6 + 1)), none] [] h1) ∧ (¬ ((x1 >>> (x6 &&& 31)) &&& 1) = 0 → gC l G d MX12_wouldGo [.ref 82, .int x6, .int x2, .int (-1)] h1 (rI fun v2 h2 => h2.2.2 = (h1).2.2 ∧ ((¬ v2 = 0 → gC l G d MX12_behindIt [.ref 82, .int x1, .int x6, .int x2] h2 (rI fun v3 h3 => h3.2.2 = (h2).2.2 ∧ ((x5 < v3 → gg p l e s m args below meth c G (d + 1) MX12_lead Q 30 [some (.ref 82), some (.int x1), some (.int x2), some (.int x3), some (.int x6), some (.int v3), some (.int (x6 + 1)), none] [] h3) ∧ (¬ x5 < v3 → gg p l e s m args below meth c G (d + 1) MX12_lead Q 30 [some (.ref 82), some (.int x1), some (.int x2), some (.int x3), some (.int x4), some (.int x5), some (.int (x6 + 1)), none] [] h3)))) ∧ (v2 = 0 → gg p l e s m args below meth c G (d + 1) MX12_lead Q 30 [some (.ref 82), some (.int x1), some (.int x2), some (.int x3), some (.int x4), some (.int x5), some (.int (x6 + 1)), none] [] h2))))))))) : gg p l e s m args below meth c G (d + 1) MX12_lead Q 30 [some (.ref 82), some (.int x1), some (.int x2), some (.int x3), some (.int x4), some (.int x5), some (.int x6), none] [] h := by
  refine go_iload (x := x6) dX12_lead_30 rfl ?_
  refine go_aload_n (x := 82) dX12_lead_32 rfl ?_
  refine gvI0 MX12_boatMany dX12_lead_33 lX12_483 kX12_boatMany vX12_boatMany sh82 (by decide) rfl (Nat.le_of_ble_eq_true rfl) vc ?_
  intro v1 h1 vc
  obtain ⟨hR1, vc⟩ := vc
  replace hR := hR1.trans hR
  refine go_icmp_ge 96 dX12_lead_36 rfl (fun q => ?_) (fun q => ?_)
  · replace vc := vc.1 q
    refine go_iload_n (x := x3) dX12_lead_96 rfl ?_
    refine go_if_ne 105 dX12_lead_97 rfl (fun q => ?_) (fun q => ?_)
    · replace vc := vc.1 q
      refine go_iload (x := x5) dX12_lead_105 rfl ?_
      exact go_iret dX12_lead_107 rfl vc rfl (Nat.le_refl _) (Nat.le_refl _)
    · replace vc := vc.2 q
      refine go_iload (x := x4) dX12_lead_100 rfl ?_
      refine go_goto 107 dX12_lead_102 rfl ?_
      exact go_iret dX12_lead_107 rfl vc rfl (Nat.le_refl _) (Nat.le_refl _)
  · replace vc := vc.2 q
    refine go_iload_n (x := x1) dX12_lead_39 rfl ?_
    refine go_iload (x := x6) dX12_lead_40 rfl ?_
    refine go_ishr dX12_lead_42 ?_
    refine go_iconst (v := 1) dX12_lead_43 rfl ?_
    refine go_iand dX12_lead_44 ?_
    refine go_if_eq 90 dX12_lead_45 rfl (fun q => ?_) (fun q => ?_)
    · replace vc := vc.1 q
      refine go_iinc (x := x6) dX12_lead_90 rfl ?_
      show gg p l e s m args below meth c G (d + 1) MX12_lead Q 93 [some (.ref 82), some (.int x1), some (.int x2), some (.int x3), some (.int x4), some (.int x5), some (.int (x6 + 1)), none] [] h1
      refine go_goto 30 dX12_lead_93 rfl ?_
      exact vc
    · replace vc := vc.2 q
      refine go_aload_n (x := 82) dX12_lead_48 rfl ?_
      refine go_iload (x := x6) dX12_lead_49 rfl ?_
      refine go_iload_n (x := x2) dX12_lead_51 rfl ?_
      refine go_iconst (v := (-1)) dX12_lead_52 rfl ?_
      refine gvI3 MX12_wouldGo dX12_lead_53 lX12_545 kX12_wouldGo vX12_wouldGo sh82 (by decide) rfl (Nat.le_of_ble_eq_true rfl) vc ?_
      intro v2 h2 vc
      obtain ⟨hR2, vc⟩ := vc
      replace hR := hR2.trans hR
      refine go_if_ne 62 dX12_lead_56 rfl (fun q => ?_) (fun q => ?_)
      · replace vc := vc.1 q
        refine go_aload_n (x := 82) dX12_lead_62 rfl ?_
        refine go_iload_n (x := x1) dX12_lead_63 rfl ?_
        refine go_iload (x := x6) dX12_lead_64 rfl ?_
        refine go_iload_n (x := x2) dX12_lead_66 rfl ?_
        refine gvI3 MX12_behindIt dX12_lead_67 lX12_633 kX12_behindIt vX12_behindIt sh82 (by decide) rfl (Nat.le_of_ble_eq_true rfl) vc ?_
        intro v3 h3 vc
        obtain ⟨hR3, vc⟩ := vc
        replace hR := hR3.trans hR
        refine go_istore dX12_lead_70 (Nat.le_of_ble_eq_true rfl) ?_
        show gg p l e s m args below meth c G (d + 1) MX12_lead Q 72 [some (.ref 82), some (.int x1), some (.int x2), some (.int x3), some (.int x4), some (.int x5), some (.int x6), some (.int v3)] [] h3
        refine go_iload (x := v3) dX12_lead_72 rfl ?_
        refine go_iload (x := x5) dX12_lead_74 rfl ?_
        refine go_icmp_gt 82 dX12_lead_76 rfl (fun q => ?_) (fun q => ?_)
        · replace vc := vc.1 q
          refine go_iload (x := v3) dX12_lead_82 rfl ?_
          refine go_istore dX12_lead_84 (Nat.le_of_ble_eq_true rfl) ?_
          show gg p l e s m args below meth c G (d + 1) MX12_lead Q 86 [some (.ref 82), some (.int x1), some (.int x2), some (.int x3), some (.int x4), some (.int v3), some (.int x6), some (.int v3)] [] h3
          refine go_iload (x := x6) dX12_lead_86 rfl ?_
          refine go_istore dX12_lead_88 (Nat.le_of_ble_eq_true rfl) ?_
          show gg p l e s m args below meth c G (d + 1) MX12_lead Q 90 [some (.ref 82), some (.int x1), some (.int x2), some (.int x3), some (.int x6), some (.int v3), some (.int x6), some (.int v3)] [] h3
          refine go_iinc (x := x6) dX12_lead_90 rfl ?_
          show gg p l e s m args below meth c G (d + 1) MX12_lead Q 93 [some (.ref 82), some (.int x1), some (.int x2), some (.int x3), some (.int x6), some (.int v3), some (.int (x6 + 1)), some (.int v3)] [] h3
          refine go_goto 30 dX12_lead_93 rfl ?_
          refine go_weak (ls' := [some (.ref 82), some (.int x1), some (.int x2), some (.int x3), some (.int x6), some (.int v3), some (.int (x6 + 1)), none]) ?_ vc
          exact (⟨rfl, ⟨rfl, ⟨rfl, ⟨rfl, ⟨rfl, ⟨rfl, ⟨rfl, trivial⟩⟩⟩⟩⟩⟩⟩)
        · replace vc := vc.2 q
          refine go_goto 90 dX12_lead_79 rfl ?_
          refine go_iinc (x := x6) dX12_lead_90 rfl ?_
          show gg p l e s m args below meth c G (d + 1) MX12_lead Q 93 [some (.ref 82), some (.int x1), some (.int x2), some (.int x3), some (.int x4), some (.int x5), some (.int (x6 + 1)), some (.int v3)] [] h3
          refine go_goto 30 dX12_lead_93 rfl ?_
          refine go_weak (ls' := [some (.ref 82), some (.int x1), some (.int x2), some (.int x3), some (.int x4), some (.int x5), some (.int (x6 + 1)), none]) ?_ vc
          exact (⟨rfl, ⟨rfl, ⟨rfl, ⟨rfl, ⟨rfl, ⟨rfl, ⟨rfl, trivial⟩⟩⟩⟩⟩⟩⟩)
      · replace vc := vc.2 q
        refine go_goto 90 dX12_lead_59 rfl ?_
        refine go_iinc (x := x6) dX12_lead_90 rfl ?_
        show gg p l e s m args below meth c G (d + 1) MX12_lead Q 93 [some (.ref 82), some (.int x1), some (.int x2), some (.int x3), some (.int x4), some (.int x5), some (.int (x6 + 1)), none] [] h2
        refine go_goto 30 dX12_lead_93 rfl ?_
        exact vc
set_option maxRecDepth 20000 in
theorem wX12_liesBest_0 {p : Program} {l : Launch} {e : Env} {s : State} {m : MethodId} {args : Array Value} {below : List Frame} {meth : Method} {c : Code} {G : gG} {d : Nat} {Q : Option Value → gH → Prop} {h : gH} {lk sp : Nat} {cd : Option Nat} {a1 : Int32} (hR : h.2.2 = gRF lk sp cd) (hlk : lk = 30 ∨ lk = 67) (hsp : sp = 30 ∨ sp = 67)  (vc : gg p l e s m args below meth c G (d + 1) MX12_liesBest Q 4 [some (.ref 82), some (.int a1), some (.int (-1)), some (.int 0)] [] h) : gg p l e s m args below meth c G (d + 1) MX12_liesBest Q 0 [some (.ref 82), some (.int a1), none, none] [] h := by
  refine go_iconst (v := (-1)) dX12_liesBest_0 rfl ?_
  refine go_istore_n dX12_liesBest_1 (Nat.le_of_ble_eq_true rfl) ?_
  show gg p l e s m args below meth c G (d + 1) MX12_liesBest Q 2 [some (.ref 82), some (.int a1), some (.int (-1)), none] [] h
  refine go_iconst (v := 0) dX12_liesBest_2 rfl ?_
  refine go_istore_n dX12_liesBest_3 (Nat.le_of_ble_eq_true rfl) ?_
  show gg p l e s m args below meth c G (d + 1) MX12_liesBest Q 4 [some (.ref 82), some (.int a1), some (.int (-1)), some (.int 0)] [] h
  exact vc
set_option maxRecDepth 20000 in
theorem wX12_liesBest_4 {p : Program} {l : Launch} {e : Env} {s : State} {m : MethodId} {args : Array Value} {below : List Frame} {meth : Method} {c : Code} {G : gG} {d : Nat} {Q : Option Value → gH → Prop} {h : gH} {lk sp : Nat} {cd : Option Nat} {x1 : Int32} {x2 : Int32} {x3 : Int32} (hR : h.2.2 = gRF lk sp cd) (hlk : lk = 30 ∨ lk = 67) (hsp : sp = 30 ∨ sp = 67)  (vc : gC l G d MX12_handMany [.ref 82] h (rI fun v1 h1 => h1.2.2 = (h).2.2 ∧ ((v1 ≤ x3 → Q (some (.int x2)) h1) ∧ (¬ v1 ≤ x3 → (vp_in x1 6 ∧ ((¬ (((h1.1 140 x1.toNatClampNeg) >>> (x3 &&& 31)) &&& 1) = 0 → gg p l e s m args below meth c G (d + 1) MX12_liesBest Q 4 [some (.ref 82), some (.int x1), some (.int x2), some (.int (x3 + 1))] [] h1) ∧ ((((h1.1 140 x1.toNatClampNeg) >>> (x3 &&& 31)) &&& 1) = 0 → ((x2 = (-1) → gg p l e s m args below meth c G (d + 1) MX12_liesBest Q 4 [some (.ref 82), some (.int x1), some (.int x3), some (.int (x3 + 1))] [] h1) ∧ (¬ x2 = (-1) → gC l G d MX12_liked [.ref 82, .int x1, .int x3] h1 (rI fun v2 h2 => h2.2.2 = (h1).2.2 ∧ gC l G d MX12_liked [.ref 82, .int x1, .int x2] h2 (rI fun v3 h3 => h3.2.2 = (h2).2.2 ∧ ((v2 ≤ v3 → gg p l e s m args below meth c G (d + 1) MX12_liesBest Q 4 [some (.ref 82), some (.int x1), some (.int x2), some (.int (x3 + 1))] [] h3) ∧ (¬ v2 ≤ v3 → gg p l e s m args below meth c G (d + 1) MX12_liesBest Q 4 [some (.ref 82), some (.int x1), some (.int x3), some (.int (x3 + 1))] [] h3))))))))))))) : gg p l e s m args below meth c G (d + 1) MX12_liesBest Q 4 [some (.ref 82), some (.int x1), some (.int x2), some (.int x3)] [] h := by
  refine go_iload_n (x := x3) dX12_liesBest_4 rfl ?_
  refine go_aload_n (x := 82) dX12_liesBest_5 rfl ?_
  refine gvI0 MX12_handMany dX12_liesBest_6 lX12_572 kX12_handMany vX12_handMany sh82 (by decide) rfl (Nat.le_of_ble_eq_true rfl) vc ?_
  intro v1 h1 vc
  obtain ⟨hR1, vc⟩ := vc
  replace hR := hR1.trans hR
  refine go_icmp_ge 53 dX12_liesBest_9 rfl (fun q => ?_) (fun q => ?_)
  · replace vc := vc.1 q
    refine go_iload_n (x := x2) dX12_liesBest_53 rfl ?_
    exact go_iret dX12_liesBest_54 rfl vc rfl (Nat.le_refl _) (Nat.le_refl _)
  · replace vc := vc.2 q
    refine go_aload_n (x := 82) dX12_liesBest_12 rfl ?_
    refine go_getR (x := 140) dX12_liesBest_13 f12_187 sh82 (fun _ _ => rfl) (rf82_75 hR) ?_
    refine go_iload_n (x := x1) dX12_liesBest_16 rfl ?_
    refine go_iald' (v := (h1.1 140 x1.toNatClampNeg)) dX12_liesBest_17 sh140 vc.1 rfl ?_
    have vc := vc.2
    refine go_iload_n (x := x3) dX12_liesBest_18 rfl ?_
    refine go_ishr dX12_liesBest_19 ?_
    refine go_iconst (v := 1) dX12_liesBest_20 rfl ?_
    refine go_iand dX12_liesBest_21 ?_
    refine go_if_ne 47 dX12_liesBest_22 rfl (fun q => ?_) (fun q => ?_)
    · replace vc := vc.1 q
      refine go_iinc (x := x3) dX12_liesBest_47 rfl ?_
      show gg p l e s m args below meth c G (d + 1) MX12_liesBest Q 50 [some (.ref 82), some (.int x1), some (.int x2), some (.int (x3 + 1))] [] h1
      refine go_goto 4 dX12_liesBest_50 rfl ?_
      exact vc
    · replace vc := vc.2 q
      refine go_iload_n (x := x2) dX12_liesBest_25 rfl ?_
      refine go_iconst (v := (-1)) dX12_liesBest_26 rfl ?_
      refine go_icmp_eq 45 dX12_liesBest_27 rfl (fun q => ?_) (fun q => ?_)
      · replace vc := vc.1 q
        refine go_iload_n (x := x3) dX12_liesBest_45 rfl ?_
        refine go_istore_n dX12_liesBest_46 (Nat.le_of_ble_eq_true rfl) ?_
        show gg p l e s m args below meth c G (d + 1) MX12_liesBest Q 47 [some (.ref 82), some (.int x1), some (.int x3), some (.int x3)] [] h1
        refine go_iinc (x := x3) dX12_liesBest_47 rfl ?_
        show gg p l e s m args below meth c G (d + 1) MX12_liesBest Q 50 [some (.ref 82), some (.int x1), some (.int x3), some (.int (x3 + 1))] [] h1
        refine go_goto 4 dX12_liesBest_50 rfl ?_
        exact vc
      · replace vc := vc.2 q
        refine go_aload_n (x := 82) dX12_liesBest_30 rfl ?_
        refine go_iload_n (x := x1) dX12_liesBest_31 rfl ?_
        refine go_iload_n (x := x3) dX12_liesBest_32 rfl ?_
        refine gvI2 MX12_liked dX12_liesBest_33 lX12_581 kX12_liked vX12_liked sh82 (by decide) rfl (Nat.le_of_ble_eq_true rfl) vc ?_
        intro v2 h2 vc
        obtain ⟨hR2, vc⟩ := vc
        replace hR := hR2.trans hR
        refine go_aload_n (x := 82) dX12_liesBest_36 rfl ?_
        refine go_iload_n (x := x1) dX12_liesBest_37 rfl ?_
        refine go_iload_n (x := x2) dX12_liesBest_38 rfl ?_
        refine gvI2 MX12_liked dX12_liesBest_39 lX12_581 kX12_liked vX12_liked sh82 (by decide) rfl (Nat.le_of_ble_eq_true rfl) vc ?_
        intro v3 h3 vc
        obtain ⟨hR3, vc⟩ := vc
        replace hR := hR3.trans hR
        refine go_icmp_le 47 dX12_liesBest_42 rfl (fun q => ?_) (fun q => ?_)
        · replace vc := vc.1 q
          refine go_iinc (x := x3) dX12_liesBest_47 rfl ?_
          show gg p l e s m args below meth c G (d + 1) MX12_liesBest Q 50 [some (.ref 82), some (.int x1), some (.int x2), some (.int (x3 + 1))] [] h3
          refine go_goto 4 dX12_liesBest_50 rfl ?_
          exact vc
        · replace vc := vc.2 q
          refine go_iload_n (x := x3) dX12_liesBest_45 rfl ?_
          refine go_istore_n dX12_liesBest_46 (Nat.le_of_ble_eq_true rfl) ?_
          show gg p l e s m args below meth c G (d + 1) MX12_liesBest Q 47 [some (.ref 82), some (.int x1), some (.int x3), some (.int x3)] [] h3
          refine go_iinc (x := x3) dX12_liesBest_47 rfl ?_
          show gg p l e s m args below meth c G (d + 1) MX12_liesBest Q 50 [some (.ref 82), some (.int x1), some (.int x3), some (.int (x3 + 1))] [] h3
          refine go_goto 4 dX12_liesBest_50 rfl ?_
          exact vc
set_option maxRecDepth 20000 in
theorem wX12_asksOne_0 {p : Program} {l : Launch} {e : Env} {s : State} {m : MethodId} {args : Array Value} {below : List Frame} {meth : Method} {c : Code} {G : gG} {d : Nat} {Q : Option Value → gH → Prop} {h : gH} {lk sp : Nat} {cd : Option Nat} {a1 : Int32} (hR : h.2.2 = gRF lk sp cd) (hlk : lk = 30 ∨ lk = 67) (hsp : sp = 30 ∨ sp = 67)  (vc : gC l G d MX12_liesBest [.ref 82, .int a1] h (rI fun v1 h1 => h1.2.2 = (h).2.2 ∧ ((¬ v1 = (-1) → (vp_in v1 6 ∧ (((h1.1 139 v1.toNatClampNeg) = (-1) → (vp_in v1 6 ∧ (((h1.1 139 v1.toNatClampNeg) = (-1) → Q (some (.int 1)) (sI h1 139 v1.toNatClampNeg a1)) ∧ (¬ (h1.1 139 v1.toNatClampNeg) = (-1) → (vp_in ((h1.1 139 v1.toNatClampNeg)) 6 ∧ (vp_in ((h1.1 139 v1.toNatClampNeg)) 6 ∧ Q (some (.int 1)) (sI (sI h1 139 v1.toNatClampNeg a1) 140 ((h1.1 139 v1.toNatClampNeg) : Int32).toNatClampNeg ((h1.1 140 ((h1.1 139 v1.toNatClampNeg) : Int32).toNatClampNeg) ||| (1 <<< (v1 &&& 31)))))))))) ∧ (¬ (h1.1 139 v1.toNatClampNeg) = (-1) → gC l G d MX12_trustOf [.ref 82, .int a1] h1 (rI fun v2 h2 => h2.2.2 = (h1).2.2 ∧ gC l G d MX12_trustOf [.ref 82, .int (h1.1 139 v1.toNatClampNeg)] h2 (rI fun v3 h3 => h3.2.2 = (h2).2.2 ∧ ((v3 < v2 → (vp_in v1 6 ∧ (((h1.1 139 v1.toNatClampNeg) = (-1) → Q (some (.int 1)) (sI h3 139 v1.toNatClampNeg a1)) ∧ (¬ (h1.1 139 v1.toNatClampNeg) = (-1) → (vp_in ((h1.1 139 v1.toNatClampNeg)) 6 ∧ (vp_in ((h1.1 139 v1.toNatClampNeg)) 6 ∧ Q (some (.int 1)) (sI (sI h3 139 v1.toNatClampNeg a1) 140 ((h1.1 139 v1.toNatClampNeg) : Int32).toNatClampNeg ((h3.1 140 ((h1.1 139 v1.toNatClampNeg) : Int32).toNatClampNeg) ||| (1 <<< (v1 &&& 31)))))))))) ∧ (¬ v3 < v2 → gC l G d MX12_trustOf [.ref 82, .int a1] h3 (rI fun v4 h4 => h4.2.2 = (h3).2.2 ∧ gC l G d MX12_trustOf [.ref 82, .int (h1.1 139 v1.toNatClampNeg)] h4 (rI fun v5 h5 => h5.2.2 = (h4).2.2 ∧ ((¬ v4 = v5 → ((a1 = (-1) → Q (some (.int 1)) h5) ∧ (¬ a1 = (-1) → (vp_in a1 6 ∧ (vp_in a1 6 ∧ Q (some (.int 1)) (sI h5 140 a1.toNatClampNeg ((h5.1 140 a1.toNatClampNeg) ||| (1 <<< (v1 &&& 31))))))))) ∧ (v4 = v5 → (((h1.1 139 v1.toNatClampNeg) ≤ a1 → ((a1 = (-1) → Q (some (.int 1)) h5) ∧ (¬ a1 = (-1) → (vp_in a1 6 ∧ (vp_in a1 6 ∧ Q (some (.int 1)) (sI h5 140 a1.toNatClampNeg ((h5.1 140 a1.toNatClampNeg) ||| (1 <<< (v1 &&& 31))))))))) ∧ (¬ (h1.1 139 v1.toNatClampNeg) ≤ a1 → (vp_in v1 6 ∧ (((h1.1 139 v1.toNatClampNeg) = (-1) → Q (some (.int 1)) (sI h5 139 v1.toNatClampNeg a1)) ∧ (¬ (h1.1 139 v1.toNatClampNeg) = (-1) → (vp_in ((h1.1 139 v1.toNatClampNeg)) 6 ∧ (vp_in ((h1.1 139 v1.toNatClampNeg)) 6 ∧ Q (some (.int 1)) (sI (sI h5 139 v1.toNatClampNeg a1) 140 ((h1.1 139 v1.toNatClampNeg) : Int32).toNatClampNeg ((h5.1 140 ((h1.1 139 v1.toNatClampNeg) : Int32).toNatClampNeg) ||| (1 <<< (v1 &&& 31))))))))))))))))))))))) ∧ (v1 = (-1) → Q (some (.int 0)) h1)))) : gg p l e s m args below meth c G (d + 1) MX12_asksOne Q 0 [some (.ref 82), some (.int a1), none, none, none, none] [] h := by
  refine go_aload_n (x := 82) dX12_asksOne_0 rfl ?_
  refine go_iload_n (x := a1) dX12_asksOne_1 rfl ?_
  refine gvI1 MX12_liesBest dX12_asksOne_2 lX12_636 kX12_liesBest vX12_liesBest sh82 (by decide) rfl (Nat.le_of_ble_eq_true rfl) vc ?_
  intro v1 h1 vc
  obtain ⟨hR1, vc⟩ := vc
  replace hR := hR1.trans hR
  refine go_istore_n dX12_asksOne_5 (Nat.le_of_ble_eq_true rfl) ?_
  show gg p l e s m args below meth c G (d + 1) MX12_asksOne Q 6 [some (.ref 82), some (.int a1), some (.int v1), none, none, none] [] h1
  refine go_iload_n (x := v1) dX12_asksOne_6 rfl ?_
  refine go_iconst (v := (-1)) dX12_asksOne_7 rfl ?_
  refine go_icmp_ne 13 dX12_asksOne_8 rfl (fun q => ?_) (fun q => ?_)
  · replace vc := vc.1 q
    refine go_aload_n (x := 82) dX12_asksOne_13 rfl ?_
    refine go_getR (x := 139) dX12_asksOne_14 f12_184 sh82 (fun _ _ => rfl) (rf82_74 hR) ?_
    refine go_iload_n (x := v1) dX12_asksOne_17 rfl ?_
    refine go_iald' (v := (h1.1 139 v1.toNatClampNeg)) dX12_asksOne_18 sh139 vc.1 rfl ?_
    have vc := vc.2
    refine go_istore_n dX12_asksOne_19 (Nat.le_of_ble_eq_true rfl) ?_
    show gg p l e s m args below meth c G (d + 1) MX12_asksOne Q 20 [some (.ref 82), some (.int a1), some (.int v1), some (.int (h1.1 139 v1.toNatClampNeg)), none, none] [] h1
    refine go_iload_n (x := (h1.1 139 v1.toNatClampNeg)) dX12_asksOne_20 rfl ?_
    refine go_iconst (v := (-1)) dX12_asksOne_21 rfl ?_
    refine go_icmp_eq 56 dX12_asksOne_22 rfl (fun q => ?_) (fun q => ?_)
    · replace vc := vc.1 q
      refine go_iconst (v := 1) dX12_asksOne_56 rfl ?_
      refine go_goto 61 dX12_asksOne_57 rfl ?_
      refine go_istore dX12_asksOne_61 (Nat.le_of_ble_eq_true rfl) ?_
      show gg p l e s m args below meth c G (d + 1) MX12_asksOne Q 63 [some (.ref 82), some (.int a1), some (.int v1), some (.int (h1.1 139 v1.toNatClampNeg)), some (.int 1), none] [] h1
      refine go_iload (x := 1) dX12_asksOne_63 rfl ?_
      refine go_if_eq 75 dX12_asksOne_65 rfl (fun q => absurd q (by decide)) (fun q => ?_)
      refine go_aload_n (x := 82) dX12_asksOne_68 rfl ?_
      refine go_getR (x := 139) dX12_asksOne_69 f12_184 sh82 (fun _ _ => rfl) (rf82_74 hR) ?_
      refine go_iload_n (x := v1) dX12_asksOne_72 rfl ?_
      refine go_iload_n (x := a1) dX12_asksOne_73 rfl ?_
      refine go_iast dX12_asksOne_74 sh139 vc.1 ?_
      have vc := vc.2
      show gg p l e s m args below meth c G (d + 1) MX12_asksOne Q 75 [some (.ref 82), some (.int a1), some (.int v1), some (.int (h1.1 139 v1.toNatClampNeg)), some (.int 1), none] [] (sI h1 139 v1.toNatClampNeg a1)
      refine go_iload (x := 1) dX12_asksOne_75 rfl ?_
      refine go_if_eq 84 dX12_asksOne_77 rfl (fun q => absurd q (by decide)) (fun q => ?_)
      refine go_iload_n (x := (h1.1 139 v1.toNatClampNeg)) dX12_asksOne_80 rfl ?_
      refine go_goto 85 dX12_asksOne_81 rfl ?_
      refine go_istore dX12_asksOne_85 (Nat.le_of_ble_eq_true rfl) ?_
      show gg p l e s m args below meth c G (d + 1) MX12_asksOne Q 87 [some (.ref 82), some (.int a1), some (.int v1), some (.int (h1.1 139 v1.toNatClampNeg)), some (.int 1), some (.int (h1.1 139 v1.toNatClampNeg))] [] (sI h1 139 v1.toNatClampNeg a1)
      refine go_iload (x := (h1.1 139 v1.toNatClampNeg)) dX12_asksOne_87 rfl ?_
      refine go_iconst (v := (-1)) dX12_asksOne_89 rfl ?_
      refine go_icmp_eq 106 dX12_asksOne_90 rfl (fun q => ?_) (fun q => ?_)
      · replace vc := vc.1 q
        refine go_iconst (v := 1) dX12_asksOne_106 rfl ?_
        exact go_zret dX12_asksOne_107 rfl (by decide) vc rfl (Nat.le_refl _) (Nat.le_refl _)
      · replace vc := vc.2 q
        refine go_aload_n (x := 82) dX12_asksOne_93 rfl ?_
        refine go_getR (x := 140) dX12_asksOne_94 f12_187 sh82 (fun _ _ => rfl) (rf82_75 hR) ?_
        refine go_iload (x := (h1.1 139 v1.toNatClampNeg)) dX12_asksOne_97 rfl ?_
        refine go_dup2 dX12_asksOne_99 rfl rfl ?_
        refine go_iald' (v := (h1.1 140 ((h1.1 139 v1.toNatClampNeg) : Int32).toNatClampNeg)) dX12_asksOne_100 sh140 vc.1 rfl ?_
        have vc := vc.2
        refine go_iconst (v := 1) dX12_asksOne_101 rfl ?_
        refine go_iload_n (x := v1) dX12_asksOne_102 rfl ?_
        refine go_ishl dX12_asksOne_103 ?_
        refine go_ior dX12_asksOne_104 ?_
        refine go_iast dX12_asksOne_105 sh140 vc.1 ?_
        have vc := vc.2
        show gg p l e s m args below meth c G (d + 1) MX12_asksOne Q 106 [some (.ref 82), some (.int a1), some (.int v1), some (.int (h1.1 139 v1.toNatClampNeg)), some (.int 1), some (.int (h1.1 139 v1.toNatClampNeg))] [] (sI (sI h1 139 v1.toNatClampNeg a1) 140 ((h1.1 139 v1.toNatClampNeg) : Int32).toNatClampNeg ((h1.1 140 ((h1.1 139 v1.toNatClampNeg) : Int32).toNatClampNeg) ||| (1 <<< (v1 &&& 31))))
        refine go_iconst (v := 1) dX12_asksOne_106 rfl ?_
        exact go_zret dX12_asksOne_107 rfl (by decide) vc rfl (Nat.le_refl _) (Nat.le_refl _)
    · replace vc := vc.2 q
      refine go_aload_n (x := 82) dX12_asksOne_25 rfl ?_
      refine go_iload_n (x := a1) dX12_asksOne_26 rfl ?_
      refine gvI1 MX12_trustOf dX12_asksOne_27 lX12_522 kX12_trustOf vX12_trustOf sh82 (by decide) rfl (Nat.le_of_ble_eq_true rfl) vc ?_
      intro v2 h2 vc
      obtain ⟨hR2, vc⟩ := vc
      replace hR := hR2.trans hR
      refine go_aload_n (x := 82) dX12_asksOne_30 rfl ?_
      refine go_iload_n (x := (h1.1 139 v1.toNatClampNeg)) dX12_asksOne_31 rfl ?_
      refine gvI1 MX12_trustOf dX12_asksOne_32 lX12_522 kX12_trustOf vX12_trustOf sh82 (by decide) rfl (Nat.le_of_ble_eq_true rfl) vc ?_
      intro v3 h3 vc
      obtain ⟨hR3, vc⟩ := vc
      replace hR := hR3.trans hR
      refine go_icmp_gt 56 dX12_asksOne_35 rfl (fun q => ?_) (fun q => ?_)
      · replace vc := vc.1 q
        refine go_iconst (v := 1) dX12_asksOne_56 rfl ?_
        refine go_goto 61 dX12_asksOne_57 rfl ?_
        refine go_istore dX12_asksOne_61 (Nat.le_of_ble_eq_true rfl) ?_
        show gg p l e s m args below meth c G (d + 1) MX12_asksOne Q 63 [some (.ref 82), some (.int a1), some (.int v1), some (.int (h1.1 139 v1.toNatClampNeg)), some (.int 1), none] [] h3
        refine go_iload (x := 1) dX12_asksOne_63 rfl ?_
        refine go_if_eq 75 dX12_asksOne_65 rfl (fun q => absurd q (by decide)) (fun q => ?_)
        refine go_aload_n (x := 82) dX12_asksOne_68 rfl ?_
        refine go_getR (x := 139) dX12_asksOne_69 f12_184 sh82 (fun _ _ => rfl) (rf82_74 hR) ?_
        refine go_iload_n (x := v1) dX12_asksOne_72 rfl ?_
        refine go_iload_n (x := a1) dX12_asksOne_73 rfl ?_
        refine go_iast dX12_asksOne_74 sh139 vc.1 ?_
        have vc := vc.2
        show gg p l e s m args below meth c G (d + 1) MX12_asksOne Q 75 [some (.ref 82), some (.int a1), some (.int v1), some (.int (h1.1 139 v1.toNatClampNeg)), some (.int 1), none] [] (sI h3 139 v1.toNatClampNeg a1)
        refine go_iload (x := 1) dX12_asksOne_75 rfl ?_
        refine go_if_eq 84 dX12_asksOne_77 rfl (fun q => absurd q (by decide)) (fun q => ?_)
        refine go_iload_n (x := (h1.1 139 v1.toNatClampNeg)) dX12_asksOne_80 rfl ?_
        refine go_goto 85 dX12_asksOne_81 rfl ?_
        refine go_istore dX12_asksOne_85 (Nat.le_of_ble_eq_true rfl) ?_
        show gg p l e s m args below meth c G (d + 1) MX12_asksOne Q 87 [some (.ref 82), some (.int a1), some (.int v1), some (.int (h1.1 139 v1.toNatClampNeg)), some (.int 1), some (.int (h1.1 139 v1.toNatClampNeg))] [] (sI h3 139 v1.toNatClampNeg a1)
        refine go_iload (x := (h1.1 139 v1.toNatClampNeg)) dX12_asksOne_87 rfl ?_
        refine go_iconst (v := (-1)) dX12_asksOne_89 rfl ?_
        refine go_icmp_eq 106 dX12_asksOne_90 rfl (fun q => ?_) (fun q => ?_)
        · replace vc := vc.1 q
          refine go_iconst (v := 1) dX12_asksOne_106 rfl ?_
          exact go_zret dX12_asksOne_107 rfl (by decide) vc rfl (Nat.le_refl _) (Nat.le_refl _)
        · replace vc := vc.2 q
          refine go_aload_n (x := 82) dX12_asksOne_93 rfl ?_
          refine go_getR (x := 140) dX12_asksOne_94 f12_187 sh82 (fun _ _ => rfl) (rf82_75 hR) ?_
          refine go_iload (x := (h1.1 139 v1.toNatClampNeg)) dX12_asksOne_97 rfl ?_
          refine go_dup2 dX12_asksOne_99 rfl rfl ?_
          refine go_iald' (v := (h3.1 140 ((h1.1 139 v1.toNatClampNeg) : Int32).toNatClampNeg)) dX12_asksOne_100 sh140 vc.1 rfl ?_
          have vc := vc.2
          refine go_iconst (v := 1) dX12_asksOne_101 rfl ?_
          refine go_iload_n (x := v1) dX12_asksOne_102 rfl ?_
          refine go_ishl dX12_asksOne_103 ?_
          refine go_ior dX12_asksOne_104 ?_
          refine go_iast dX12_asksOne_105 sh140 vc.1 ?_
          have vc := vc.2
          show gg p l e s m args below meth c G (d + 1) MX12_asksOne Q 106 [some (.ref 82), some (.int a1), some (.int v1), some (.int (h1.1 139 v1.toNatClampNeg)), some (.int 1), some (.int (h1.1 139 v1.toNatClampNeg))] [] (sI (sI h3 139 v1.toNatClampNeg a1) 140 ((h1.1 139 v1.toNatClampNeg) : Int32).toNatClampNeg ((h3.1 140 ((h1.1 139 v1.toNatClampNeg) : Int32).toNatClampNeg) ||| (1 <<< (v1 &&& 31))))
          refine go_iconst (v := 1) dX12_asksOne_106 rfl ?_
          exact go_zret dX12_asksOne_107 rfl (by decide) vc rfl (Nat.le_refl _) (Nat.le_refl _)
      · replace vc := vc.2 q
        refine go_aload_n (x := 82) dX12_asksOne_38 rfl ?_
        refine go_iload_n (x := a1) dX12_asksOne_39 rfl ?_
        refine gvI1 MX12_trustOf dX12_asksOne_40 lX12_522 kX12_trustOf vX12_trustOf sh82 (by decide) rfl (Nat.le_of_ble_eq_true rfl) vc ?_
        intro v4 h4 vc
        obtain ⟨hR4, vc⟩ := vc
        replace hR := hR4.trans hR
        refine go_aload_n (x := 82) dX12_asksOne_43 rfl ?_
        refine go_iload_n (x := (h1.1 139 v1.toNatClampNeg)) dX12_asksOne_44 rfl ?_
        refine gvI1 MX12_trustOf dX12_asksOne_45 lX12_522 kX12_trustOf vX12_trustOf sh82 (by decide) rfl (Nat.le_of_ble_eq_true rfl) vc ?_
        intro v5 h5 vc
        obtain ⟨hR5, vc⟩ := vc
        replace hR := hR5.trans hR
        refine go_icmp_ne 60 dX12_asksOne_48 rfl (fun q => ?_) (fun q => ?_)
        · replace vc := vc.1 q
          refine go_iconst (v := 0) dX12_asksOne_60 rfl ?_
          refine go_istore dX12_asksOne_61 (Nat.le_of_ble_eq_true rfl) ?_
          show gg p l e s m args below meth c G (d + 1) MX12_asksOne Q 63 [some (.ref 82), some (.int a1), some (.int v1), some (.int (h1.1 139 v1.toNatClampNeg)), some (.int 0), none] [] h5
          refine go_iload (x := 0) dX12_asksOne_63 rfl ?_
          refine go_if_eq 75 dX12_asksOne_65 rfl (fun q => ?_) (fun q => absurd q (by decide))
          refine go_iload (x := 0) dX12_asksOne_75 rfl ?_
          refine go_if_eq 84 dX12_asksOne_77 rfl (fun q => ?_) (fun q => absurd q (by decide))
          refine go_iload_n (x := a1) dX12_asksOne_84 rfl ?_
          refine go_istore dX12_asksOne_85 (Nat.le_of_ble_eq_true rfl) ?_
          show gg p l e s m args below meth c G (d + 1) MX12_asksOne Q 87 [some (.ref 82), some (.int a1), some (.int v1), some (.int (h1.1 139 v1.toNatClampNeg)), some (.int 0), some (.int a1)] [] h5
          refine go_iload (x := a1) dX12_asksOne_87 rfl ?_
          refine go_iconst (v := (-1)) dX12_asksOne_89 rfl ?_
          refine go_icmp_eq 106 dX12_asksOne_90 rfl (fun q => ?_) (fun q => ?_)
          · replace vc := vc.1 q
            refine go_iconst (v := 1) dX12_asksOne_106 rfl ?_
            exact go_zret dX12_asksOne_107 rfl (by decide) vc rfl (Nat.le_refl _) (Nat.le_refl _)
          · replace vc := vc.2 q
            refine go_aload_n (x := 82) dX12_asksOne_93 rfl ?_
            refine go_getR (x := 140) dX12_asksOne_94 f12_187 sh82 (fun _ _ => rfl) (rf82_75 hR) ?_
            refine go_iload (x := a1) dX12_asksOne_97 rfl ?_
            refine go_dup2 dX12_asksOne_99 rfl rfl ?_
            refine go_iald' (v := (h5.1 140 a1.toNatClampNeg)) dX12_asksOne_100 sh140 vc.1 rfl ?_
            have vc := vc.2
            refine go_iconst (v := 1) dX12_asksOne_101 rfl ?_
            refine go_iload_n (x := v1) dX12_asksOne_102 rfl ?_
            refine go_ishl dX12_asksOne_103 ?_
            refine go_ior dX12_asksOne_104 ?_
            refine go_iast dX12_asksOne_105 sh140 vc.1 ?_
            have vc := vc.2
            show gg p l e s m args below meth c G (d + 1) MX12_asksOne Q 106 [some (.ref 82), some (.int a1), some (.int v1), some (.int (h1.1 139 v1.toNatClampNeg)), some (.int 0), some (.int a1)] [] (sI h5 140 a1.toNatClampNeg ((h5.1 140 a1.toNatClampNeg) ||| (1 <<< (v1 &&& 31))))
            refine go_iconst (v := 1) dX12_asksOne_106 rfl ?_
            exact go_zret dX12_asksOne_107 rfl (by decide) vc rfl (Nat.le_refl _) (Nat.le_refl _)
        · replace vc := vc.2 q
          refine go_iload_n (x := a1) dX12_asksOne_51 rfl ?_
          refine go_iload_n (x := (h1.1 139 v1.toNatClampNeg)) dX12_asksOne_52 rfl ?_
          refine go_icmp_ge 60 dX12_asksOne_53 rfl (fun q => ?_) (fun q => ?_)
          · replace vc := vc.1 q
            refine go_iconst (v := 0) dX12_asksOne_60 rfl ?_
            refine go_istore dX12_asksOne_61 (Nat.le_of_ble_eq_true rfl) ?_
            show gg p l e s m args below meth c G (d + 1) MX12_asksOne Q 63 [some (.ref 82), some (.int a1), some (.int v1), some (.int (h1.1 139 v1.toNatClampNeg)), some (.int 0), none] [] h5
            refine go_iload (x := 0) dX12_asksOne_63 rfl ?_
            refine go_if_eq 75 dX12_asksOne_65 rfl (fun q => ?_) (fun q => absurd q (by decide))
            refine go_iload (x := 0) dX12_asksOne_75 rfl ?_
            refine go_if_eq 84 dX12_asksOne_77 rfl (fun q => ?_) (fun q => absurd q (by decide))
            refine go_iload_n (x := a1) dX12_asksOne_84 rfl ?_
            refine go_istore dX12_asksOne_85 (Nat.le_of_ble_eq_true rfl) ?_
            show gg p l e s m args below meth c G (d + 1) MX12_asksOne Q 87 [some (.ref 82), some (.int a1), some (.int v1), some (.int (h1.1 139 v1.toNatClampNeg)), some (.int 0), some (.int a1)] [] h5
            refine go_iload (x := a1) dX12_asksOne_87 rfl ?_
            refine go_iconst (v := (-1)) dX12_asksOne_89 rfl ?_
            refine go_icmp_eq 106 dX12_asksOne_90 rfl (fun q => ?_) (fun q => ?_)
            · replace vc := vc.1 q
              refine go_iconst (v := 1) dX12_asksOne_106 rfl ?_
              exact go_zret dX12_asksOne_107 rfl (by decide) vc rfl (Nat.le_refl _) (Nat.le_refl _)
            · replace vc := vc.2 q
              refine go_aload_n (x := 82) dX12_asksOne_93 rfl ?_
              refine go_getR (x := 140) dX12_asksOne_94 f12_187 sh82 (fun _ _ => rfl) (rf82_75 hR) ?_
              refine go_iload (x := a1) dX12_asksOne_97 rfl ?_
              refine go_dup2 dX12_asksOne_99 rfl rfl ?_
              refine go_iald' (v := (h5.1 140 a1.toNatClampNeg)) dX12_asksOne_100 sh140 vc.1 rfl ?_
              have vc := vc.2
              refine go_iconst (v := 1) dX12_asksOne_101 rfl ?_
              refine go_iload_n (x := v1) dX12_asksOne_102 rfl ?_
              refine go_ishl dX12_asksOne_103 ?_
              refine go_ior dX12_asksOne_104 ?_
              refine go_iast dX12_asksOne_105 sh140 vc.1 ?_
              have vc := vc.2
              show gg p l e s m args below meth c G (d + 1) MX12_asksOne Q 106 [some (.ref 82), some (.int a1), some (.int v1), some (.int (h1.1 139 v1.toNatClampNeg)), some (.int 0), some (.int a1)] [] (sI h5 140 a1.toNatClampNeg ((h5.1 140 a1.toNatClampNeg) ||| (1 <<< (v1 &&& 31))))
              refine go_iconst (v := 1) dX12_asksOne_106 rfl ?_
              exact go_zret dX12_asksOne_107 rfl (by decide) vc rfl (Nat.le_refl _) (Nat.le_refl _)
          · replace vc := vc.2 q
            refine go_iconst (v := 1) dX12_asksOne_56 rfl ?_
            refine go_goto 61 dX12_asksOne_57 rfl ?_
            refine go_istore dX12_asksOne_61 (Nat.le_of_ble_eq_true rfl) ?_
            show gg p l e s m args below meth c G (d + 1) MX12_asksOne Q 63 [some (.ref 82), some (.int a1), some (.int v1), some (.int (h1.1 139 v1.toNatClampNeg)), some (.int 1), none] [] h5
            refine go_iload (x := 1) dX12_asksOne_63 rfl ?_
            refine go_if_eq 75 dX12_asksOne_65 rfl (fun q => absurd q (by decide)) (fun q => ?_)
            refine go_aload_n (x := 82) dX12_asksOne_68 rfl ?_
            refine go_getR (x := 139) dX12_asksOne_69 f12_184 sh82 (fun _ _ => rfl) (rf82_74 hR) ?_
            refine go_iload_n (x := v1) dX12_asksOne_72 rfl ?_
            refine go_iload_n (x := a1) dX12_asksOne_73 rfl ?_
            refine go_iast dX12_asksOne_74 sh139 vc.1 ?_
            have vc := vc.2
            show gg p l e s m args below meth c G (d + 1) MX12_asksOne Q 75 [some (.ref 82), some (.int a1), some (.int v1), some (.int (h1.1 139 v1.toNatClampNeg)), some (.int 1), none] [] (sI h5 139 v1.toNatClampNeg a1)
            refine go_iload (x := 1) dX12_asksOne_75 rfl ?_
            refine go_if_eq 84 dX12_asksOne_77 rfl (fun q => absurd q (by decide)) (fun q => ?_)
            refine go_iload_n (x := (h1.1 139 v1.toNatClampNeg)) dX12_asksOne_80 rfl ?_
            refine go_goto 85 dX12_asksOne_81 rfl ?_
            refine go_istore dX12_asksOne_85 (Nat.le_of_ble_eq_true rfl) ?_
            show gg p l e s m args below meth c G (d + 1) MX12_asksOne Q 87 [some (.ref 82), some (.int a1), some (.int v1), some (.int (h1.1 139 v1.toNatClampNeg)), some (.int 1), some (.int (h1.1 139 v1.toNatClampNeg))] [] (sI h5 139 v1.toNatClampNeg a1)
            refine go_iload (x := (h1.1 139 v1.toNatClampNeg)) dX12_asksOne_87 rfl ?_
            refine go_iconst (v := (-1)) dX12_asksOne_89 rfl ?_
            refine go_icmp_eq 106 dX12_asksOne_90 rfl (fun q => ?_) (fun q => ?_)
            · replace vc := vc.1 q
              refine go_iconst (v := 1) dX12_asksOne_106 rfl ?_
              exact go_zret dX12_asksOne_107 rfl (by decide) vc rfl (Nat.le_refl _) (Nat.le_refl _)
            · replace vc := vc.2 q
              refine go_aload_n (x := 82) dX12_asksOne_93 rfl ?_
              refine go_getR (x := 140) dX12_asksOne_94 f12_187 sh82 (fun _ _ => rfl) (rf82_75 hR) ?_
              refine go_iload (x := (h1.1 139 v1.toNatClampNeg)) dX12_asksOne_97 rfl ?_
              refine go_dup2 dX12_asksOne_99 rfl rfl ?_
              refine go_iald' (v := (h5.1 140 ((h1.1 139 v1.toNatClampNeg) : Int32).toNatClampNeg)) dX12_asksOne_100 sh140 vc.1 rfl ?_
              have vc := vc.2
              refine go_iconst (v := 1) dX12_asksOne_101 rfl ?_
              refine go_iload_n (x := v1) dX12_asksOne_102 rfl ?_
              refine go_ishl dX12_asksOne_103 ?_
              refine go_ior dX12_asksOne_104 ?_
              refine go_iast dX12_asksOne_105 sh140 vc.1 ?_
              have vc := vc.2
              show gg p l e s m args below meth c G (d + 1) MX12_asksOne Q 106 [some (.ref 82), some (.int a1), some (.int v1), some (.int (h1.1 139 v1.toNatClampNeg)), some (.int 1), some (.int (h1.1 139 v1.toNatClampNeg))] [] (sI (sI h5 139 v1.toNatClampNeg a1) 140 ((h1.1 139 v1.toNatClampNeg) : Int32).toNatClampNeg ((h5.1 140 ((h1.1 139 v1.toNatClampNeg) : Int32).toNatClampNeg) ||| (1 <<< (v1 &&& 31))))
              refine go_iconst (v := 1) dX12_asksOne_106 rfl ?_
              exact go_zret dX12_asksOne_107 rfl (by decide) vc rfl (Nat.le_refl _) (Nat.le_refl _)
  · replace vc := vc.2 q
    refine go_iconst (v := 0) dX12_asksOne_11 rfl ?_
    exact go_zret dX12_asksOne_12 rfl (by decide) vc rfl (Nat.le_refl _) (Nat.le_refl _)
set_option maxRecDepth 20000 in
theorem wX12_isFree_0 {p : Program} {l : Launch} {e : Env} {s : State} {m : MethodId} {args : Array Value} {below : List Frame} {meth : Method} {c : Code} {G : gG} {d : Nat} {Q : Option Value → gH → Prop} {h : gH} {lk sp : Nat} {cd : Option Nat} {a1 : Int32} (hR : h.2.2 = gRF lk sp cd) (hlk : lk = 30 ∨ lk = 67) (hsp : sp = 30 ∨ sp = 67)  (vc : gg p l e s m args below meth c G (d + 1) MX12_isFree Q 2 [some (.ref 82), some (.int a1), some (.int 0)] [] h) : gg p l e s m args below meth c G (d + 1) MX12_isFree Q 0 [some (.ref 82), some (.int a1), none] [] h := by
  refine go_iconst (v := 0) dX12_isFree_0 rfl ?_
  refine go_istore_n dX12_isFree_1 (Nat.le_of_ble_eq_true rfl) ?_
  show gg p l e s m args below meth c G (d + 1) MX12_isFree Q 2 [some (.ref 82), some (.int a1), some (.int 0)] [] h
  exact vc
set_option maxRecDepth 20000 in
theorem wX12_isFree_2 {p : Program} {l : Launch} {e : Env} {s : State} {m : MethodId} {args : Array Value} {below : List Frame} {meth : Method} {c : Code} {G : gG} {d : Nat} {Q : Option Value → gH → Prop} {h : gH} {lk sp : Nat} {cd : Option Nat} {x1 : Int32} {x2 : Int32} (hR : h.2.2 = gRF lk sp cd) (hlk : lk = 30 ∨ lk = 67) (hsp : sp = 30 ∨ sp = 67)  (vc : gC l G d MX12_handMany [.ref 82] h (rI fun v1 h1 => h1.2.2 = (h).2.2 ∧ ((v1 ≤ x2 → Q (some (.int 1)) h1) ∧ (¬ v1 ≤ x2 → (vp_in x2 6 ∧ ((¬ (h1.1 139 x2.toNatClampNeg) = x1 → gg p l e s m args below meth c G (d + 1) MX12_isFree Q 2 [some (.ref 82), some (.int x1), some (.int (x2 + 1))] [] h1) ∧ ((h1.1 139 x2.toNatClampNeg) = x1 → Q (some (.int 0)) h1))))))) : gg p l e s m args below meth c G (d + 1) MX12_isFree Q 2 [some (.ref 82), some (.int x1), some (.int x2)] [] h := by
  refine go_iload_n (x := x2) dX12_isFree_2 rfl ?_
  refine go_aload_n (x := 82) dX12_isFree_3 rfl ?_
  refine gvI0 MX12_handMany dX12_isFree_4 lX12_572 kX12_handMany vX12_handMany sh82 (by decide) rfl (Nat.le_of_ble_eq_true rfl) vc ?_
  intro v1 h1 vc
  obtain ⟨hR1, vc⟩ := vc
  replace hR := hR1.trans hR
  refine go_icmp_ge 28 dX12_isFree_7 rfl (fun q => ?_) (fun q => ?_)
  · replace vc := vc.1 q
    refine go_iconst (v := 1) dX12_isFree_28 rfl ?_
    exact go_zret dX12_isFree_29 rfl (by decide) vc rfl (Nat.le_refl _) (Nat.le_refl _)
  · replace vc := vc.2 q
    refine go_aload_n (x := 82) dX12_isFree_10 rfl ?_
    refine go_getR (x := 139) dX12_isFree_11 f12_184 sh82 (fun _ _ => rfl) (rf82_74 hR) ?_
    refine go_iload_n (x := x2) dX12_isFree_14 rfl ?_
    refine go_iald' (v := (h1.1 139 x2.toNatClampNeg)) dX12_isFree_15 sh139 vc.1 rfl ?_
    have vc := vc.2
    refine go_iload_n (x := x1) dX12_isFree_16 rfl ?_
    refine go_icmp_ne 22 dX12_isFree_17 rfl (fun q => ?_) (fun q => ?_)
    · replace vc := vc.1 q
      refine go_iinc (x := x2) dX12_isFree_22 rfl ?_
      show gg p l e s m args below meth c G (d + 1) MX12_isFree Q 25 [some (.ref 82), some (.int x1), some (.int (x2 + 1))] [] h1
      refine go_goto 2 dX12_isFree_25 rfl ?_
      exact vc
    · replace vc := vc.2 q
      refine go_iconst (v := 0) dX12_isFree_20 rfl ?_
      exact go_zret dX12_isFree_21 rfl (by decide) vc rfl (Nat.le_refl _) (Nat.le_refl _)
set_option maxRecDepth 20000 in
theorem wX12_match_0 {p : Program} {l : Launch} {e : Env} {s : State} {m : MethodId} {args : Array Value} {below : List Frame} {meth : Method} {c : Code} {G : gG} {d : Nat} {Q : Option Value → gH → Prop} {h : gH} {lk sp : Nat} {cd : Option Nat} {a1 : Int32} (hR : h.2.2 = gRF lk sp cd) (hlk : lk = 30 ∨ lk = 67) (hsp : sp = 30 ∨ sp = 67)  (vc : gC l G d MX12_isBoat [.ref 82, .int a1] h (rI fun v1 h1 => h1.2.2 = (h).2.2 ∧ ((¬ v1 = 0 → gg p l e s m args below meth c G (d + 1) MX12_match Q 12 [some (.ref 82), some (.int a1), some (.int 0), none] [] h1) ∧ (v1 = 0 → Q (some (.int (-1))) h1)))) : gg p l e s m args below meth c G (d + 1) MX12_match Q 0 [some (.ref 82), some (.int a1), none, none] [] h := by
  refine go_aload_n (x := 82) dX12_match_0 rfl ?_
  refine go_iload_n (x := a1) dX12_match_1 rfl ?_
  refine gvI1 MX12_isBoat dX12_match_2 lX12_564 kX12_isBoat vX12_isBoat sh82 (by decide) rfl (Nat.le_of_ble_eq_true rfl) vc ?_
  intro v1 h1 vc
  obtain ⟨hR1, vc⟩ := vc
  replace hR := hR1.trans hR
  refine go_if_ne 10 dX12_match_5 rfl (fun q => ?_) (fun q => ?_)
  · replace vc := vc.1 q
    refine go_iconst (v := 0) dX12_match_10 rfl ?_
    refine go_istore_n dX12_match_11 (Nat.le_of_ble_eq_true rfl) ?_
    show gg p l e s m args below meth c G (d + 1) MX12_match Q 12 [some (.ref 82), some (.int a1), some (.int 0), none] [] h1
    exact vc
  · replace vc := vc.2 q
    refine go_iconst (v := (-1)) dX12_match_8 rfl ?_
    exact go_iret dX12_match_9 rfl vc rfl (Nat.le_refl _) (Nat.le_refl _)
set_option maxRecDepth 20000 in
theorem wX12_match_12 {p : Program} {l : Launch} {e : Env} {s : State} {m : MethodId} {args : Array Value} {below : List Frame} {meth : Method} {c : Code} {G : gG} {d : Nat} {Q : Option Value → gH → Prop} {h : gH} {lk sp : Nat} {cd : Option Nat} {x1 : Int32} {x2 : Int32} (hR : h.2.2 = gRF lk sp cd) (hlk : lk = 30 ∨ lk = 67) (hsp : sp = 30 ∨ sp = 67)  (vc : ((6 ≤ x2 → gg p l e s m args below meth c G (d + 1) MX12_match Q 40 [some (.ref 82), some (.int x1), some (.int 1), none] [] h) ∧ (¬ 6 ≤ x2 → (vp_in x2 6 ∧ (vp_in x2 6 ∧ gg p l e s m args below meth c G (d + 1) MX12_match Q 12 [some (.ref 82), some (.int x1), some (.int (x2 + 1)), none] [] (sI (sI h 139 x2.toNatClampNeg (-1)) 140 x2.toNatClampNeg 0)))))) : gg p l e s m args below meth c G (d + 1) MX12_match Q 12 [some (.ref 82), some (.int x1), some (.int x2), none] [] h := by
  refine go_iload_n (x := x2) dX12_match_12 rfl ?_
  refine go_bipush (v := 6) dX12_match_13 rfl ?_
  refine go_icmp_ge 38 dX12_match_15 rfl (fun q => ?_) (fun q => ?_)
  · replace vc := vc.1 q
    refine go_iconst (v := 1) dX12_match_38 rfl ?_
    refine go_istore_n dX12_match_39 (Nat.le_of_ble_eq_true rfl) ?_
    show gg p l e s m args below meth c G (d + 1) MX12_match Q 40 [some (.ref 82), some (.int x1), some (.int 1), none] [] h
    exact vc
  · replace vc := vc.2 q
    refine go_aload_n (x := 82) dX12_match_18 rfl ?_
    refine go_getR (x := 139) dX12_match_19 f12_184 sh82 (fun _ _ => rfl) (rf82_74 hR) ?_
    refine go_iload_n (x := x2) dX12_match_22 rfl ?_
    refine go_iconst (v := (-1)) dX12_match_23 rfl ?_
    refine go_iast dX12_match_24 sh139 vc.1 ?_
    have vc := vc.2
    show gg p l e s m args below meth c G (d + 1) MX12_match Q 25 [some (.ref 82), some (.int x1), some (.int x2), none] [] (sI h 139 x2.toNatClampNeg (-1))
    refine go_aload_n (x := 82) dX12_match_25 rfl ?_
    refine go_getR (x := 140) dX12_match_26 f12_187 sh82 (fun _ _ => rfl) (rf82_75 hR) ?_
    refine go_iload_n (x := x2) dX12_match_29 rfl ?_
    refine go_iconst (v := 0) dX12_match_30 rfl ?_
    refine go_iast dX12_match_31 sh140 vc.1 ?_
    have vc := vc.2
    show gg p l e s m args below meth c G (d + 1) MX12_match Q 32 [some (.ref 82), some (.int x1), some (.int x2), none] [] (sI (sI h 139 x2.toNatClampNeg (-1)) 140 x2.toNatClampNeg 0)
    refine go_iinc (x := x2) dX12_match_32 rfl ?_
    show gg p l e s m args below meth c G (d + 1) MX12_match Q 35 [some (.ref 82), some (.int x1), some (.int (x2 + 1)), none] [] (sI (sI h 139 x2.toNatClampNeg (-1)) 140 x2.toNatClampNeg 0)
    refine go_goto 12 dX12_match_35 rfl ?_
    exact vc
set_option maxRecDepth 20000 in
theorem wX12_match_40 {p : Program} {l : Launch} {e : Env} {s : State} {m : MethodId} {args : Array Value} {below : List Frame} {meth : Method} {c : Code} {G : gG} {d : Nat} {Q : Option Value → gH → Prop} {h : gH} {lk sp : Nat} {cd : Option Nat} {x1 : Int32} {x2 : Int32} (hR : h.2.2 = gRF lk sp cd) (hlk : lk = 30 ∨ lk = 67) (hsp : sp = 30 ∨ sp = 67)  (vc : ((x2 = 0 → gg p l e s m args below meth c G (d + 1) MX12_match Q 85 [some (.ref 82), some (.int x1), some (.int x2), some (.int 0)] [] h) ∧ (¬ x2 = 0 → gg p l e s m args below meth c G (d + 1) MX12_match Q 48 [some (.ref 82), some (.int x1), some (.int 0), some (.int 0)] [] h))) : gg p l e s m args below meth c G (d + 1) MX12_match Q 40 [some (.ref 82), some (.int x1), some (.int x2), none] [] h := by
  refine go_iload_n (x := x2) dX12_match_40 rfl ?_
  refine go_if_eq 83 dX12_match_41 rfl (fun q => ?_) (fun q => ?_)
  · replace vc := vc.1 q
    refine go_iconst (v := 0) dX12_match_83 rfl ?_
    refine go_istore_n dX12_match_84 (Nat.le_of_ble_eq_true rfl) ?_
    show gg p l e s m args below meth c G (d + 1) MX12_match Q 85 [some (.ref 82), some (.int x1), some (.int x2), some (.int 0)] [] h
    exact vc
  · replace vc := vc.2 q
    refine go_iconst (v := 0) dX12_match_44 rfl ?_
    refine go_istore_n dX12_match_45 (Nat.le_of_ble_eq_true rfl) ?_
    show gg p l e s m args below meth c G (d + 1) MX12_match Q 46 [some (.ref 82), some (.int x1), some (.int 0), none] [] h
    refine go_iconst (v := 0) dX12_match_46 rfl ?_
    refine go_istore_n dX12_match_47 (Nat.le_of_ble_eq_true rfl) ?_
    show gg p l e s m args below meth c G (d + 1) MX12_match Q 48 [some (.ref 82), some (.int x1), some (.int 0), some (.int 0)] [] h
    exact vc
set_option maxRecDepth 20000 in
theorem wX12_match_48 {p : Program} {l : Launch} {e : Env} {s : State} {m : MethodId} {args : Array Value} {below : List Frame} {meth : Method} {c : Code} {G : gG} {d : Nat} {Q : Option Value → gH → Prop} {h : gH} {lk sp : Nat} {cd : Option Nat} {x1 : Int32} {x2 : Int32} {x3 : Int32} (hR : h.2.2 = gRF lk sp cd) (hlk : lk = 30 ∨ lk = 67) (hsp : sp = 30 ∨ sp = 67)  (vc : gC l G d MX12_boatMany [.ref 82] h (rI fun v1 h1 => h1.2.2 = (h).2.2 ∧ ((v1 ≤ x3 → gg p l e s m args below meth c G (d + 1) MX12_match Q 40 [some (.ref 82), some (.int x1), some (.int x2), none] [] h1) ∧ (¬ v1 ≤ x3 → gC l G d MX12_isFree [.ref 82, .int x3] h1 (rI fun v2 h2 => h2.2.2 = (h1).2.2 ∧ ((v2 = 0 → gg p l e s m args below meth c G (d + 1) MX12_match Q 48 [some (.ref 82), some (.int x1), some (.int x2), some (.int (x3 + 1))] [] h2) ∧ (¬ v2 = 0 → gC l G d MX12_asksOne [.ref 82, .int x3] h2 (rI fun v3 h3 => h3.2.2 = (h2).2.2 ∧ ((v3 = 0 → gg p l e s m args below meth c G (d + 1) MX12_match Q 48 [some (.ref 82), some (.int x1), some (.int x2), some (.int (x3 + 1))] [] h3) ∧ (¬ v3 = 0 → gg p l e s m args below meth c G (d + 1) MX12_match Q 48 [some (.ref 82), some (.int x1), some (.int 1), some (.int (x3 + 1))] [] h3)))))))))) : gg p l e s m args below meth c G (d + 1) MX12_match Q 48 [some (.ref 82), some (.int x1), some (.int x2), some (.int x3)] [] h := by
  refine go_iload_n (x := x3) dX12_match_48 rfl ?_
  refine go_aload_n (x := 82) dX12_match_49 rfl ?_
  refine gvI0 MX12_boatMany dX12_match_50 lX12_483 kX12_boatMany vX12_boatMany sh82 (by decide) rfl (Nat.le_of_ble_eq_true rfl) vc ?_
  intro v1 h1 vc
  obtain ⟨hR1, vc⟩ := vc
  replace hR := hR1.trans hR
  refine go_icmp_ge 80 dX12_match_53 rfl (fun q => ?_) (fun q => ?_)
  · replace vc := vc.1 q
    refine go_goto 40 dX12_match_80 rfl ?_
    refine go_weak (ls' := [some (.ref 82), some (.int x1), some (.int x2), none]) ?_ vc
    exact (⟨rfl, ⟨rfl, ⟨rfl, trivial⟩⟩⟩)
  · replace vc := vc.2 q
    refine go_aload_n (x := 82) dX12_match_56 rfl ?_
    refine go_iload_n (x := x3) dX12_match_57 rfl ?_
    refine gvI1 MX12_isFree dX12_match_58 lX12_639 kX12_isFree vX12_isFree sh82 (by decide) rfl (Nat.le_of_ble_eq_true rfl) vc ?_
    intro v2 h2 vc
    obtain ⟨hR2, vc⟩ := vc
    replace hR := hR2.trans hR
    refine go_if_eq 74 dX12_match_61 rfl (fun q => ?_) (fun q => ?_)
    · replace vc := vc.1 q
      refine go_iinc (x := x3) dX12_match_74 rfl ?_
      show gg p l e s m args below meth c G (d + 1) MX12_match Q 77 [some (.ref 82), some (.int x1), some (.int x2), some (.int (x3 + 1))] [] h2
      refine go_goto 48 dX12_match_77 rfl ?_
      exact vc
    · replace vc := vc.2 q
      refine go_aload_n (x := 82) dX12_match_64 rfl ?_
      refine go_iload_n (x := x3) dX12_match_65 rfl ?_
      refine gvI1 MX12_asksOne dX12_match_66 lX12_642 kX12_asksOne vX12_asksOne sh82 (by decide) rfl (Nat.le_of_ble_eq_true rfl) vc ?_
      intro v3 h3 vc
      obtain ⟨hR3, vc⟩ := vc
      replace hR := hR3.trans hR
      refine go_if_eq 74 dX12_match_69 rfl (fun q => ?_) (fun q => ?_)
      · replace vc := vc.1 q
        refine go_iinc (x := x3) dX12_match_74 rfl ?_
        show gg p l e s m args below meth c G (d + 1) MX12_match Q 77 [some (.ref 82), some (.int x1), some (.int x2), some (.int (x3 + 1))] [] h3
        refine go_goto 48 dX12_match_77 rfl ?_
        exact vc
      · replace vc := vc.2 q
        refine go_iconst (v := 1) dX12_match_72 rfl ?_
        refine go_istore_n dX12_match_73 (Nat.le_of_ble_eq_true rfl) ?_
        show gg p l e s m args below meth c G (d + 1) MX12_match Q 74 [some (.ref 82), some (.int x1), some (.int 1), some (.int x3)] [] h3
        refine go_iinc (x := x3) dX12_match_74 rfl ?_
        show gg p l e s m args below meth c G (d + 1) MX12_match Q 77 [some (.ref 82), some (.int x1), some (.int 1), some (.int (x3 + 1))] [] h3
        refine go_goto 48 dX12_match_77 rfl ?_
        exact vc
set_option maxRecDepth 20000 in
theorem wX12_match_85 {p : Program} {l : Launch} {e : Env} {s : State} {m : MethodId} {args : Array Value} {below : List Frame} {meth : Method} {c : Code} {G : gG} {d : Nat} {Q : Option Value → gH → Prop} {h : gH} {lk sp : Nat} {cd : Option Nat} {x1 : Int32} {x2 : Int32} {x3 : Int32} (hR : h.2.2 = gRF lk sp cd) (hlk : lk = 30 ∨ lk = 67) (hsp : sp = 30 ∨ sp = 67)  (vc : gC l G d MX12_handMany [.ref 82] h (rI fun v1 h1 => h1.2.2 = (h).2.2 ∧ ((v1 ≤ x3 → Q (some (.int (-1))) h1) ∧ (¬ v1 ≤ x3 → (vp_in x3 6 ∧ ((¬ (h1.1 139 x3.toNatClampNeg) = x1 → gg p l e s m args below meth c G (d + 1) MX12_match Q 85 [some (.ref 82), some (.int x1), some (.int x2), some (.int (x3 + 1))] [] h1) ∧ ((h1.1 139 x3.toNatClampNeg) = x1 → Q (some (.int x3)) h1))))))) : gg p l e s m args below meth c G (d + 1) MX12_match Q 85 [some (.ref 82), some (.int x1), some (.int x2), some (.int x3)] [] h := by
  refine go_iload_n (x := x3) dX12_match_85 rfl ?_
  refine go_aload_n (x := 82) dX12_match_86 rfl ?_
  refine gvI0 MX12_handMany dX12_match_87 lX12_572 kX12_handMany vX12_handMany sh82 (by decide) rfl (Nat.le_of_ble_eq_true rfl) vc ?_
  intro v1 h1 vc
  obtain ⟨hR1, vc⟩ := vc
  replace hR := hR1.trans hR
  refine go_icmp_ge 111 dX12_match_90 rfl (fun q => ?_) (fun q => ?_)
  · replace vc := vc.1 q
    refine go_iconst (v := (-1)) dX12_match_111 rfl ?_
    exact go_iret dX12_match_112 rfl vc rfl (Nat.le_refl _) (Nat.le_refl _)
  · replace vc := vc.2 q
    refine go_aload_n (x := 82) dX12_match_93 rfl ?_
    refine go_getR (x := 139) dX12_match_94 f12_184 sh82 (fun _ _ => rfl) (rf82_74 hR) ?_
    refine go_iload_n (x := x3) dX12_match_97 rfl ?_
    refine go_iald' (v := (h1.1 139 x3.toNatClampNeg)) dX12_match_98 sh139 vc.1 rfl ?_
    have vc := vc.2
    refine go_iload_n (x := x1) dX12_match_99 rfl ?_
    refine go_icmp_ne 105 dX12_match_100 rfl (fun q => ?_) (fun q => ?_)
    · replace vc := vc.1 q
      refine go_iinc (x := x3) dX12_match_105 rfl ?_
      show gg p l e s m args below meth c G (d + 1) MX12_match Q 108 [some (.ref 82), some (.int x1), some (.int x2), some (.int (x3 + 1))] [] h1
      refine go_goto 85 dX12_match_108 rfl ?_
      exact vc
    · replace vc := vc.2 q
      refine go_iload_n (x := x3) dX12_match_103 rfl ?_
      exact go_iret dX12_match_104 rfl vc rfl (Nat.le_refl _) (Nat.le_refl _)
set_option maxRecDepth 20000 in
theorem wX12_trials_0 {p : Program} {l : Launch} {e : Env} {s : State} {m : MethodId} {args : Array Value} {below : List Frame} {meth : Method} {c : Code} {G : gG} {d : Nat} {Q : Option Value → gH → Prop} {h : gH} {lk sp : Nat} {cd : Option Nat} {a1 : Int32} (hR : h.2.2 = gRF lk sp cd) (hlk : lk = 30 ∨ lk = 67) (hsp : sp = 30 ∨ sp = 67)  (vc : gC l G d MX12_isBoat [.ref 82, .int a1] (sI h 82 1 0) (rI fun v1 h1 => h1.2.2 = ((sI h 82 1 0)).2.2 ∧ ((v1 = 0 → gg p l e s m args below meth c G (d + 1) MX12_trials Q 45 [some (.ref 82), some (.int a1), some (.int (h.1 82 1)), some (.int 0), some (.int 0)] [] h1) ∧ (¬ v1 = 0 → (((h.1 82 1) ≤ 0 → gg p l e s m args below meth c G (d + 1) MX12_trials Q 45 [some (.ref 82), some (.int a1), some (.int (h.1 82 1)), some (.int 0), some (.int 0)] [] h1) ∧ (¬ (h.1 82 1) ≤ 0 → ((¬ ((h.1 82 1) - (h.1 82 1) / 2 * 2) = 0 → gg p l e s m args below meth c G (d + 1) MX12_trials Q 45 [some (.ref 82), some (.int a1), some (.int (h.1 82 1)), some (.int 0), some (.int 0)] [] h1) ∧ (((h.1 82 1) - (h.1 82 1) / 2 * 2) = 0 → ((20 < ((h.1 82 1) / 2) → gg p l e s m args below meth c G (d + 1) MX12_trials Q 45 [some (.ref 82), some (.int a1), some (.int (h.1 82 1)), some (.int 0), some (.int 0)] [] h1) ∧ (¬ 20 < ((h.1 82 1) / 2) → gg p l e s m args below meth c G (d + 1) MX12_trials Q 45 [some (.ref 82), some (.int a1), some (.int (h.1 82 1)), some (.int 1), some (.int 0)] [] h1)))))))))) : gg p l e s m args below meth c G (d + 1) MX12_trials Q 0 [some (.ref 82), some (.int a1), none, none, none] [] h := by
  refine go_aload_n (x := 82) dX12_trials_0 rfl ?_
  refine go_getI' (v := (h.1 82 1)) dX12_trials_1 f12_275 sh82 (fun _ _ => rfl) rfl ?_
  refine go_istore_n dX12_trials_4 (Nat.le_of_ble_eq_true rfl) ?_
  show gg p l e s m args below meth c G (d + 1) MX12_trials Q 5 [some (.ref 82), some (.int a1), some (.int (h.1 82 1)), none, none] [] h
  refine go_aload_n (x := 82) dX12_trials_5 rfl ?_
  refine go_iconst (v := 0) dX12_trials_6 rfl ?_
  refine go_putI dX12_trials_7 f12_275 sh82 rfl rfl ?_
  refine go_aload_n (x := 82) dX12_trials_10 rfl ?_
  refine go_iload_n (x := a1) dX12_trials_11 rfl ?_
  refine gvI1 MX12_isBoat dX12_trials_12 lX12_564 kX12_isBoat vX12_isBoat sh82 (by decide) rfl (Nat.le_of_ble_eq_true rfl) vc ?_
  intro v1 h1 vc
  obtain ⟨hR1, vc⟩ := vc
  replace hR := hR1.trans hR
  refine go_if_eq 40 dX12_trials_15 rfl (fun q => ?_) (fun q => ?_)
  · replace vc := vc.1 q
    refine go_iconst (v := 0) dX12_trials_40 rfl ?_
    refine go_istore_n dX12_trials_41 (Nat.le_of_ble_eq_true rfl) ?_
    show gg p l e s m args below meth c G (d + 1) MX12_trials Q 42 [some (.ref 82), some (.int a1), some (.int (h.1 82 1)), some (.int 0), none] [] h1
    refine go_iconst (v := 0) dX12_trials_42 rfl ?_
    refine go_istore dX12_trials_43 (Nat.le_of_ble_eq_true rfl) ?_
    show gg p l e s m args below meth c G (d + 1) MX12_trials Q 45 [some (.ref 82), some (.int a1), some (.int (h.1 82 1)), some (.int 0), some (.int 0)] [] h1
    exact vc
  · replace vc := vc.2 q
    refine go_iload_n (x := (h.1 82 1)) dX12_trials_18 rfl ?_
    refine go_if_le 40 dX12_trials_19 rfl (fun q => ?_) (fun q => ?_)
    · replace vc := vc.1 q
      refine go_iconst (v := 0) dX12_trials_40 rfl ?_
      refine go_istore_n dX12_trials_41 (Nat.le_of_ble_eq_true rfl) ?_
      show gg p l e s m args below meth c G (d + 1) MX12_trials Q 42 [some (.ref 82), some (.int a1), some (.int (h.1 82 1)), some (.int 0), none] [] h1
      refine go_iconst (v := 0) dX12_trials_42 rfl ?_
      refine go_istore dX12_trials_43 (Nat.le_of_ble_eq_true rfl) ?_
      show gg p l e s m args below meth c G (d + 1) MX12_trials Q 45 [some (.ref 82), some (.int a1), some (.int (h.1 82 1)), some (.int 0), some (.int 0)] [] h1
      exact vc
    · replace vc := vc.2 q
      refine go_iload_n (x := (h.1 82 1)) dX12_trials_22 rfl ?_
      refine go_iconst (v := 2) dX12_trials_23 rfl ?_
      refine go_irem dX12_trials_24 (by decide) ?_
      refine go_if_ne 40 dX12_trials_25 rfl (fun q => ?_) (fun q => ?_)
      · replace vc := vc.1 q
        refine go_iconst (v := 0) dX12_trials_40 rfl ?_
        refine go_istore_n dX12_trials_41 (Nat.le_of_ble_eq_true rfl) ?_
        show gg p l e s m args below meth c G (d + 1) MX12_trials Q 42 [some (.ref 82), some (.int a1), some (.int (h.1 82 1)), some (.int 0), none] [] h1
        refine go_iconst (v := 0) dX12_trials_42 rfl ?_
        refine go_istore dX12_trials_43 (Nat.le_of_ble_eq_true rfl) ?_
        show gg p l e s m args below meth c G (d + 1) MX12_trials Q 45 [some (.ref 82), some (.int a1), some (.int (h.1 82 1)), some (.int 0), some (.int 0)] [] h1
        exact vc
      · replace vc := vc.2 q
        refine go_iload_n (x := (h.1 82 1)) dX12_trials_28 rfl ?_
        refine go_iconst (v := 2) dX12_trials_29 rfl ?_
        refine go_idiv dX12_trials_30 (by decide) ?_
        refine go_bipush (v := 20) dX12_trials_31 rfl ?_
        refine go_icmp_gt 40 dX12_trials_33 rfl (fun q => ?_) (fun q => ?_)
        · replace vc := vc.1 q
          refine go_iconst (v := 0) dX12_trials_40 rfl ?_
          refine go_istore_n dX12_trials_41 (Nat.le_of_ble_eq_true rfl) ?_
          show gg p l e s m args below meth c G (d + 1) MX12_trials Q 42 [some (.ref 82), some (.int a1), some (.int (h.1 82 1)), some (.int 0), none] [] h1
          refine go_iconst (v := 0) dX12_trials_42 rfl ?_
          refine go_istore dX12_trials_43 (Nat.le_of_ble_eq_true rfl) ?_
          show gg p l e s m args below meth c G (d + 1) MX12_trials Q 45 [some (.ref 82), some (.int a1), some (.int (h.1 82 1)), some (.int 0), some (.int 0)] [] h1
          exact vc
        · replace vc := vc.2 q
          refine go_iconst (v := 1) dX12_trials_36 rfl ?_
          refine go_goto 41 dX12_trials_37 rfl ?_
          refine go_istore_n dX12_trials_41 (Nat.le_of_ble_eq_true rfl) ?_
          show gg p l e s m args below meth c G (d + 1) MX12_trials Q 42 [some (.ref 82), some (.int a1), some (.int (h.1 82 1)), some (.int 1), none] [] h1
          refine go_iconst (v := 0) dX12_trials_42 rfl ?_
          refine go_istore dX12_trials_43 (Nat.le_of_ble_eq_true rfl) ?_
          show gg p l e s m args below meth c G (d + 1) MX12_trials Q 45 [some (.ref 82), some (.int a1), some (.int (h.1 82 1)), some (.int 1), some (.int 0)] [] h1
          exact vc
set_option maxRecDepth 20000 in
theorem wX12_trials_45 {p : Program} {l : Launch} {e : Env} {s : State} {m : MethodId} {args : Array Value} {below : List Frame} {meth : Method} {c : Code} {G : gG} {d : Nat} {Q : Option Value → gH → Prop} {h : gH} {lk sp : Nat} {cd : Option Nat} {x1 : Int32} {x2 : Int32} {x3 : Int32} {x4 : Int32} (hR : h.2.2 = gRF lk sp cd) (hlk : lk = 30 ∨ lk = 67) (hsp : sp = 30 ∨ sp = 67)  (vc : ((x2 ≤ x4 → ((¬ x3 = 0 → gg p l e s m args below meth c G (d + 1) MX12_trials Q 113 [some (.ref 82), some (.int x1), some (.int x2), some (.int x3), some (.int 0)] [] h) ∧ (x3 = 0 → Q (some (.int (-1))) (sI h 84 1 ((h.1 84 1) + 1))))) ∧ (¬ x2 ≤ x4 → ((x3 = 0 → ((¬ x3 = 0 → gg p l e s m args below meth c G (d + 1) MX12_trials Q 113 [some (.ref 82), some (.int x1), some (.int x2), some (.int x3), some (.int 0)] [] h) ∧ (x3 = 0 → Q (some (.int (-1))) (sI h 84 1 ((h.1 84 1) + 1))))) ∧ (¬ x3 = 0 → (vp_in x4 1600 ∧ gC l G d MX12_isWater [.ref 82, .int (h.1 83 x4.toNatClampNeg)] h (rI fun v1 h1 => h1.2.2 = (h).2.2 ∧ ((v1 = 0 → gg p l e s m args below meth c G (d + 1) MX12_trials Q 45 [some (.ref 82), some (.int x1), some (.int x2), some (.int 0), some (.int (x4 + 2))] [] h1) ∧ (¬ v1 = 0 → (vp_in ((x4 + 1)) 1600 ∧ ((2 ≤ (h1.1 83 ((x4 + 1) : Int32).toNatClampNeg) → gg p l e s m args below meth c G (d + 1) MX12_trials Q 45 [some (.ref 82), some (.int x1), some (.int x2), some (.int 0), some (.int (x4 + 2))] [] h1) ∧ (¬ 2 ≤ (h1.1 83 ((x4 + 1) : Int32).toNatClampNeg) → gg p l e s m args below meth c G (d + 1) MX12_trials Q 45 [some (.ref 82), some (.int x1), some (.int x2), some (.int 1), some (.int (x4 + 2))] [] h1)))))))))))) : gg p l e s m args below meth c G (d + 1) MX12_trials Q 45 [some (.ref 82), some (.int x1), some (.int x2), some (.int x3), some (.int x4)] [] h := by
  refine go_iload (x := x4) dX12_trials_45 rfl ?_
  refine go_iload_n (x := x2) dX12_trials_47 rfl ?_
  refine go_icmp_ge 94 dX12_trials_48 rfl (fun q => ?_) (fun q => ?_)
  · replace vc := vc.1 q
    refine go_iload_n (x := x3) dX12_trials_94 rfl ?_
    refine go_if_ne 110 dX12_trials_95 rfl (fun q => ?_) (fun q => ?_)
    · replace vc := vc.1 q
      refine go_iconst (v := 0) dX12_trials_110 rfl ?_
      refine go_istore dX12_trials_111 (Nat.le_of_ble_eq_true rfl) ?_
      show gg p l e s m args below meth c G (d + 1) MX12_trials Q 113 [some (.ref 82), some (.int x1), some (.int x2), some (.int x3), some (.int 0)] [] h
      exact vc
    · replace vc := vc.2 q
      refine go_aload_n (x := 82) dX12_trials_98 rfl ?_
      refine go_getR (x := 84) dX12_trials_99 f12_17 sh82 (fun _ _ => rfl) (rf82_9 hR) ?_
      refine go_iconst (v := 1) dX12_trials_102 rfl ?_
      refine go_dup2 dX12_trials_103 rfl rfl ?_
      refine go_iald' (v := (h.1 84 1)) dX12_trials_104 sh84 (by unfold vp_in; decide) rfl ?_
      refine go_iconst (v := 1) dX12_trials_105 rfl ?_
      refine go_iadd dX12_trials_106 ?_
      refine go_iast dX12_trials_107 sh84 (by unfold vp_in; decide) ?_
      refine go_iconst (v := (-1)) dX12_trials_108 rfl ?_
      exact go_iret dX12_trials_109 rfl vc rfl (Nat.le_refl _) (Nat.le_refl _)
  · replace vc := vc.2 q
    refine go_iload_n (x := x3) dX12_trials_51 rfl ?_
    refine go_if_eq 94 dX12_trials_52 rfl (fun q => ?_) (fun q => ?_)
    · replace vc := vc.1 q
      refine go_iload_n (x := x3) dX12_trials_94 rfl ?_
      refine go_if_ne 110 dX12_trials_95 rfl (fun q => ?_) (fun q => ?_)
      · replace vc := vc.1 q
        refine go_iconst (v := 0) dX12_trials_110 rfl ?_
        refine go_istore dX12_trials_111 (Nat.le_of_ble_eq_true rfl) ?_
        show gg p l e s m args below meth c G (d + 1) MX12_trials Q 113 [some (.ref 82), some (.int x1), some (.int x2), some (.int x3), some (.int 0)] [] h
        exact vc
      · replace vc := vc.2 q
        refine go_aload_n (x := 82) dX12_trials_98 rfl ?_
        refine go_getR (x := 84) dX12_trials_99 f12_17 sh82 (fun _ _ => rfl) (rf82_9 hR) ?_
        refine go_iconst (v := 1) dX12_trials_102 rfl ?_
        refine go_dup2 dX12_trials_103 rfl rfl ?_
        refine go_iald' (v := (h.1 84 1)) dX12_trials_104 sh84 (by unfold vp_in; decide) rfl ?_
        refine go_iconst (v := 1) dX12_trials_105 rfl ?_
        refine go_iadd dX12_trials_106 ?_
        refine go_iast dX12_trials_107 sh84 (by unfold vp_in; decide) ?_
        refine go_iconst (v := (-1)) dX12_trials_108 rfl ?_
        exact go_iret dX12_trials_109 rfl vc rfl (Nat.le_refl _) (Nat.le_refl _)
    · replace vc := vc.2 q
      refine go_aload_n (x := 82) dX12_trials_55 rfl ?_
      refine go_aload_n (x := 82) dX12_trials_56 rfl ?_
      refine go_getR (x := 83) dX12_trials_57 f12_7 sh82 (fun _ _ => rfl) (rf82_0 hR) ?_
      refine go_iload (x := x4) dX12_trials_60 rfl ?_
      refine go_iald' (v := (h.1 83 x4.toNatClampNeg)) dX12_trials_62 sh83 vc.1 rfl ?_
      have vc := vc.2
      refine gvI1 MX12_isWater dX12_trials_63 lX12_556 kX12_isWater vX12_isWater sh82 (by decide) rfl (Nat.le_of_ble_eq_true rfl) vc ?_
      intro v1 h1 vc
      obtain ⟨hR1, vc⟩ := vc
      replace hR := hR1.trans hR
      refine go_if_eq 86 dX12_trials_66 rfl (fun q => ?_) (fun q => ?_)
      · replace vc := vc.1 q
        refine go_iconst (v := 0) dX12_trials_86 rfl ?_
        refine go_istore_n dX12_trials_87 (Nat.le_of_ble_eq_true rfl) ?_
        show gg p l e s m args below meth c G (d + 1) MX12_trials Q 88 [some (.ref 82), some (.int x1), some (.int x2), some (.int 0), some (.int x4)] [] h1
        refine go_iinc (x := x4) dX12_trials_88 rfl ?_
        show gg p l e s m args below meth c G (d + 1) MX12_trials Q 91 [some (.ref 82), some (.int x1), some (.int x2), some (.int 0), some (.int (x4 + 2))] [] h1
        refine go_goto 45 dX12_trials_91 rfl ?_
        exact vc
      · replace vc := vc.2 q
        refine go_aload_n (x := 82) dX12_trials_69 rfl ?_
        refine go_getR (x := 83) dX12_trials_70 f12_7 sh82 (fun _ _ => rfl) (rf82_0 hR) ?_
        refine go_iload (x := x4) dX12_trials_73 rfl ?_
        refine go_iconst (v := 1) dX12_trials_75 rfl ?_
        refine go_iadd dX12_trials_76 ?_
        refine go_iald' (v := (h1.1 83 ((x4 + 1) : Int32).toNatClampNeg)) dX12_trials_77 sh83 vc.1 rfl ?_
        have vc := vc.2
        refine go_iconst (v := 2) dX12_trials_78 rfl ?_
        refine go_icmp_ge 86 dX12_trials_79 rfl (fun q => ?_) (fun q => ?_)
        · replace vc := vc.1 q
          refine go_iconst (v := 0) dX12_trials_86 rfl ?_
          refine go_istore_n dX12_trials_87 (Nat.le_of_ble_eq_true rfl) ?_
          show gg p l e s m args below meth c G (d + 1) MX12_trials Q 88 [some (.ref 82), some (.int x1), some (.int x2), some (.int 0), some (.int x4)] [] h1
          refine go_iinc (x := x4) dX12_trials_88 rfl ?_
          show gg p l e s m args below meth c G (d + 1) MX12_trials Q 91 [some (.ref 82), some (.int x1), some (.int x2), some (.int 0), some (.int (x4 + 2))] [] h1
          refine go_goto 45 dX12_trials_91 rfl ?_
          exact vc
        · replace vc := vc.2 q
          refine go_iconst (v := 1) dX12_trials_82 rfl ?_
          refine go_goto 87 dX12_trials_83 rfl ?_
          refine go_istore_n dX12_trials_87 (Nat.le_of_ble_eq_true rfl) ?_
          show gg p l e s m args below meth c G (d + 1) MX12_trials Q 88 [some (.ref 82), some (.int x1), some (.int x2), some (.int 1), some (.int x4)] [] h1
          refine go_iinc (x := x4) dX12_trials_88 rfl ?_
          show gg p l e s m args below meth c G (d + 1) MX12_trials Q 91 [some (.ref 82), some (.int x1), some (.int x2), some (.int 1), some (.int (x4 + 2))] [] h1
          refine go_goto 45 dX12_trials_91 rfl ?_
          exact vc
set_option maxRecDepth 20000 in
theorem wX12_trials_113 {p : Program} {l : Launch} {e : Env} {s : State} {m : MethodId} {args : Array Value} {below : List Frame} {meth : Method} {c : Code} {G : gG} {d : Nat} {Q : Option Value → gH → Prop} {h : gH} {lk sp : Nat} {cd : Option Nat} {x1 : Int32} {x2 : Int32} {x3 : Int32} {x4 : Int32} (hR : h.2.2 = gRF lk sp cd) (hlk : lk = 30 ∨ lk = 67) (hsp : sp = 30 ∨ sp = 67)  (vc : ((x2 ≤ x4 → Q (some (.int (x2 / 2))) (sI (sI h 82 76 (x2 / 2)) 82 77 x1)) ∧ (¬ x2 ≤ x4 → (vp_in x4 1600 ∧ (vp_in x4 40 ∧ gg p l e s m args below meth c G (d + 1) MX12_trials Q 113 [some (.ref 82), some (.int x1), some (.int x2), some (.int x3), some (.int (x4 + 1))] [] (sI h 141 x4.toNatClampNeg (h.1 83 x4.toNatClampNeg))))))) : gg p l e s m args below meth c G (d + 1) MX12_trials Q 113 [some (.ref 82), some (.int x1), some (.int x2), some (.int x3), some (.int x4)] [] h := by
  refine go_iload (x := x4) dX12_trials_113 rfl ?_
  refine go_iload_n (x := x2) dX12_trials_115 rfl ?_
  refine go_icmp_ge 139 dX12_trials_116 rfl (fun q => ?_) (fun q => ?_)
  · replace vc := vc.1 q
    refine go_aload_n (x := 82) dX12_trials_139 rfl ?_
    refine go_iload_n (x := x2) dX12_trials_140 rfl ?_
    refine go_iconst (v := 2) dX12_trials_141 rfl ?_
    refine go_idiv dX12_trials_142 (by decide) ?_
    refine go_putI dX12_trials_143 f12_428 sh82 rfl rfl ?_
    refine go_aload_n (x := 82) dX12_trials_146 rfl ?_
    refine go_iload_n (x := x1) dX12_trials_147 rfl ?_
    refine go_putI dX12_trials_148 f12_645 sh82 rfl rfl ?_
    refine go_aload_n (x := 82) dX12_trials_151 rfl ?_
    refine go_getI' (v := (x2 / 2)) dX12_trials_152 f12_428 sh82 (fun _ _ => rfl) rfl ?_
    exact go_iret dX12_trials_155 rfl vc rfl (Nat.le_refl _) (Nat.le_refl _)
  · replace vc := vc.2 q
    refine go_aload_n (x := 82) dX12_trials_119 rfl ?_
    refine go_getR (x := 141) dX12_trials_120 f12_190 sh82 (fun _ _ => rfl) (rf82_78 hR) ?_
    refine go_iload (x := x4) dX12_trials_123 rfl ?_
    refine go_aload_n (x := 82) dX12_trials_125 rfl ?_
    refine go_getR (x := 83) dX12_trials_126 f12_7 sh82 (fun _ _ => rfl) (rf82_0 hR) ?_
    refine go_iload (x := x4) dX12_trials_129 rfl ?_
    refine go_iald' (v := (h.1 83 x4.toNatClampNeg)) dX12_trials_131 sh83 vc.1 rfl ?_
    have vc := vc.2
    refine go_iast dX12_trials_132 sh141 vc.1 ?_
    have vc := vc.2
    show gg p l e s m args below meth c G (d + 1) MX12_trials Q 133 [some (.ref 82), some (.int x1), some (.int x2), some (.int x3), some (.int x4)] [] (sI h 141 x4.toNatClampNeg (h.1 83 x4.toNatClampNeg))
    refine go_iinc (x := x4) dX12_trials_133 rfl ?_
    show gg p l e s m args below meth c G (d + 1) MX12_trials Q 136 [some (.ref 82), some (.int x1), some (.int x2), some (.int x3), some (.int (x4 + 1))] [] (sI h 141 x4.toNatClampNeg (h.1 83 x4.toNatClampNeg))
    refine go_goto 113 dX12_trials_136 rfl ?_
    exact vc
set_option maxRecDepth 20000 in
theorem wX12_canTrust_0 {p : Program} {l : Launch} {e : Env} {s : State} {m : MethodId} {args : Array Value} {below : List Frame} {meth : Method} {c : Code} {G : gG} {d : Nat} {Q : Option Value → gH → Prop} {h : gH} {lk sp : Nat} {cd : Option Nat} {a1 : Int32} (hR : h.2.2 = gRF lk sp cd) (hlk : lk = 30 ∨ lk = 67) (hsp : sp = 30 ∨ sp = 67)  (vc : gg p l e s m args below meth c G d MX12_canTrust Q 2 [some (.ref 82), some (.int a1), some (.int 0)] [] h) : gg p l e s m args below meth c G d MX12_canTrust Q 0 [some (.ref 82), some (.int a1), none] [] h := by
  refine go_iconst (v := 0) dX12_canTrust_0 rfl ?_
  refine go_istore_n dX12_canTrust_1 (Nat.le_of_ble_eq_true rfl) ?_
  show gg p l e s m args below meth c G d MX12_canTrust Q 2 [some (.ref 82), some (.int a1), some (.int 0)] [] h
  exact vc
set_option maxRecDepth 20000 in
theorem wX12_canTrust_2 {p : Program} {l : Launch} {e : Env} {s : State} {m : MethodId} {args : Array Value} {below : List Frame} {meth : Method} {c : Code} {G : gG} {d : Nat} {Q : Option Value → gH → Prop} {h : gH} {lk sp : Nat} {cd : Option Nat} {x1 : Int32} {x2 : Int32} (hR : h.2.2 = gRF lk sp cd) (hlk : lk = 30 ∨ lk = 67) (hsp : sp = 30 ∨ sp = 67)  (vc : (((h.1 82 76) ≤ x2 → Q (some (.int 1)) h) ∧ (¬ (h.1 82 76) ≤ x2 → (vp_in ((2 * x2)) 40 ∧ (vp_in ((h.1 141 ((2 * x2) : Int32).toNatClampNeg)) 48 ∧ ((x1 < (h.1 135 ((h.1 141 ((2 * x2) : Int32).toNatClampNeg) : Int32).toNatClampNeg) → (vp_in (((2 * x2) + 1)) 40 ∧ ((0 = (h.1 141 (((2 * x2) + 1) : Int32).toNatClampNeg) → gg p l e s m args below meth c G d MX12_canTrust Q 2 [some (.ref 82), some (.int x1), some (.int (x2 + 1))] [] h) ∧ (¬ 0 = (h.1 141 (((2 * x2) + 1) : Int32).toNatClampNeg) → Q (some (.int 0)) h)))) ∧ (¬ x1 < (h.1 135 ((h.1 141 ((2 * x2) : Int32).toNatClampNeg) : Int32).toNatClampNeg) → (vp_in (((2 * x2) + 1)) 40 ∧ ((1 = (h.1 141 (((2 * x2) + 1) : Int32).toNatClampNeg) → gg p l e s m args below meth c G d MX12_canTrust Q 2 [some (.ref 82), some (.int x1), some (.int (x2 + 1))] [] h) ∧ (¬ 1 = (h.1 141 (((2 * x2) + 1) : Int32).toNatClampNeg) → Q (some (.int 0)) h)))))))))) : gg p l e s m args below meth c G d MX12_canTrust Q 2 [some (.ref 82), some (.int x1), some (.int x2)] [] h := by
  refine go_iload_n (x := x2) dX12_canTrust_2 rfl ?_
  refine go_aload_n (x := 82) dX12_canTrust_3 rfl ?_
  refine go_getI' (v := (h.1 82 76)) dX12_canTrust_4 f12_428 sh82 (fun _ _ => rfl) rfl ?_
  refine go_icmp_ge 53 dX12_canTrust_7 rfl (fun q => ?_) (fun q => ?_)
  · replace vc := vc.1 q
    refine go_iconst (v := 1) dX12_canTrust_53 rfl ?_
    exact go_zret dX12_canTrust_54 rfl (by decide) vc rfl (Nat.le_refl _) (Nat.le_refl _)
  · replace vc := vc.2 q
    refine go_aload_n (x := 82) dX12_canTrust_10 rfl ?_
    refine go_getR (x := 135) dX12_canTrust_11 f12_172 sh82 (fun _ _ => rfl) (rf82_70 hR) ?_
    refine go_aload_n (x := 82) dX12_canTrust_14 rfl ?_
    refine go_getR (x := 141) dX12_canTrust_15 f12_190 sh82 (fun _ _ => rfl) (rf82_78 hR) ?_
    refine go_iconst (v := 2) dX12_canTrust_18 rfl ?_
    refine go_iload_n (x := x2) dX12_canTrust_19 rfl ?_
    refine go_imul dX12_canTrust_20 ?_
    refine go_iald' (v := (h.1 141 ((2 * x2) : Int32).toNatClampNeg)) dX12_canTrust_21 sh141 vc.1 rfl ?_
    have vc := vc.2
    refine go_iald' (v := (h.1 135 ((h.1 141 ((2 * x2) : Int32).toNatClampNeg) : Int32).toNatClampNeg)) dX12_canTrust_22 sh135 vc.1 rfl ?_
    have vc := vc.2
    refine go_iload_n (x := x1) dX12_canTrust_23 rfl ?_
    refine go_icmp_gt 31 dX12_canTrust_24 rfl (fun q => ?_) (fun q => ?_)
    · replace vc := vc.1 q
      refine go_iconst (v := 0) dX12_canTrust_31 rfl ?_
      refine go_aload_n (x := 82) dX12_canTrust_32 rfl ?_
      refine go_getR (x := 141) dX12_canTrust_33 f12_190 sh82 (fun _ _ => rfl) (rf82_78 hR) ?_
      refine go_iconst (v := 2) dX12_canTrust_36 rfl ?_
      refine go_iload_n (x := x2) dX12_canTrust_37 rfl ?_
      refine go_imul dX12_canTrust_38 ?_
      refine go_iconst (v := 1) dX12_canTrust_39 rfl ?_
      refine go_iadd dX12_canTrust_40 ?_
      refine go_iald' (v := (h.1 141 (((2 * x2) + 1) : Int32).toNatClampNeg)) dX12_canTrust_41 sh141 vc.1 rfl ?_
      have vc := vc.2
      refine go_icmp_eq 47 dX12_canTrust_42 rfl (fun q => ?_) (fun q => ?_)
      · replace vc := vc.1 q
        refine go_iinc (x := x2) dX12_canTrust_47 rfl ?_
        show gg p l e s m args below meth c G d MX12_canTrust Q 50 [some (.ref 82), some (.int x1), some (.int (x2 + 1))] [] h
        refine go_goto 2 dX12_canTrust_50 rfl ?_
        exact vc
      · replace vc := vc.2 q
        refine go_iconst (v := 0) dX12_canTrust_45 rfl ?_
        exact go_zret dX12_canTrust_46 rfl (by decide) vc rfl (Nat.le_refl _) (Nat.le_refl _)
    · replace vc := vc.2 q
      refine go_iconst (v := 1) dX12_canTrust_27 rfl ?_
      refine go_goto 32 dX12_canTrust_28 rfl ?_
      refine go_aload_n (x := 82) dX12_canTrust_32 rfl ?_
      refine go_getR (x := 141) dX12_canTrust_33 f12_190 sh82 (fun _ _ => rfl) (rf82_78 hR) ?_
      refine go_iconst (v := 2) dX12_canTrust_36 rfl ?_
      refine go_iload_n (x := x2) dX12_canTrust_37 rfl ?_
      refine go_imul dX12_canTrust_38 ?_
      refine go_iconst (v := 1) dX12_canTrust_39 rfl ?_
      refine go_iadd dX12_canTrust_40 ?_
      refine go_iald' (v := (h.1 141 (((2 * x2) + 1) : Int32).toNatClampNeg)) dX12_canTrust_41 sh141 vc.1 rfl ?_
      have vc := vc.2
      refine go_icmp_eq 47 dX12_canTrust_42 rfl (fun q => ?_) (fun q => ?_)
      · replace vc := vc.1 q
        refine go_iinc (x := x2) dX12_canTrust_47 rfl ?_
        show gg p l e s m args below meth c G d MX12_canTrust Q 50 [some (.ref 82), some (.int x1), some (.int (x2 + 1))] [] h
        refine go_goto 2 dX12_canTrust_50 rfl ?_
        exact vc
      · replace vc := vc.2 q
        refine go_iconst (v := 0) dX12_canTrust_45 rfl ?_
        exact go_zret dX12_canTrust_46 rfl (by decide) vc rfl (Nat.le_refl _) (Nat.le_refl _)
set_option maxRecDepth 20000 in
theorem wX12_trusts_0 {p : Program} {l : Launch} {e : Env} {s : State} {m : MethodId} {args : Array Value} {below : List Frame} {meth : Method} {c : Code} {G : gG} {d : Nat} {Q : Option Value → gH → Prop} {h : gH} {lk sp : Nat} {cd : Option Nat} {a1 : Int32} (hR : h.2.2 = gRF lk sp cd) (hlk : lk = 30 ∨ lk = 67) (hsp : sp = 30 ∨ sp = 67)  (vc : (((h.1 82 76) = 0 → Q (some (.int (-1))) h) ∧ (¬ (h.1 82 76) = 0 → gC l G d MX12_isIn [.long (a1 : Int32).toInt64, .long 0, .long 2] h (rI fun v1 h1 => h1.2.2 = (h).2.2 ∧ ((¬ v1 = 0 → gC l G d MX12_laysFears [.ref 82, .int (h1.1 82 77)] h1 (rV fun h2 => h2.2.2 = (h1).2.2 ∧ gg p l e s m args below meth c G (d + 1) MX12_trusts Q 39 [some (.ref 82), some (.int a1), some (.int 0), some (.int (-1)), some (.int (-1)), some (.int 0)] [] h2)) ∧ (v1 = 0 → Q (some (.int (-1))) h1)))))) : gg p l e s m args below meth c G (d + 1) MX12_trusts Q 0 [some (.ref 82), some (.int a1), none, none, none, none] [] h := by
  refine go_aload_n (x := 82) dX12_trusts_0 rfl ?_
  refine go_getI' (v := (h.1 82 76)) dX12_trusts_1 f12_428 sh82 (fun _ _ => rfl) rfl ?_
  refine go_if_eq 19 dX12_trusts_4 rfl (fun q => ?_) (fun q => ?_)
  · replace vc := vc.1 q
    refine go_iconst (v := (-1)) dX12_trusts_19 rfl ?_
    exact go_iret dX12_trusts_20 rfl vc rfl (Nat.le_refl _) (Nat.le_refl _)
  · replace vc := vc.2 q
    refine go_iload_n (x := a1) dX12_trusts_7 rfl ?_
    refine go_i2l dX12_trusts_8 ?_
    refine go_lconst (v := 0) dX12_trusts_9 rfl ?_
    refine go_ldc2 (v := 2) dX12_trusts_10 nX12_648 ?_
    refine gsI3 MX12_isIn dX12_trusts_13 lX12_321 kX12_isIn sX12_isIn (Nat.le_of_ble_eq_true rfl) vc ?_
    intro v1 h1 vc
    obtain ⟨hR1, vc⟩ := vc
    replace hR := hR1.trans hR
    refine go_if_ne 21 dX12_trusts_16 rfl (fun q => ?_) (fun q => ?_)
    · replace vc := vc.1 q
      refine go_aload_n (x := 82) dX12_trusts_21 rfl ?_
      refine go_aload_n (x := 82) dX12_trusts_22 rfl ?_
      refine go_getI' (v := (h1.1 82 77)) dX12_trusts_23 f12_645 sh82 (fun _ _ => rfl) rfl ?_
      refine gvV1 MX12_laysFears dX12_trusts_26 lX12_590 kX12_laysFears vX12_laysFears sh82 (by decide) rfl (Nat.le_of_ble_eq_true rfl) vc ?_
      intro h2 vc
      obtain ⟨hR2, vc⟩ := vc
      replace hR := hR2.trans hR
      refine go_iconst (v := 0) dX12_trusts_29 rfl ?_
      refine go_istore_n dX12_trusts_30 (Nat.le_of_ble_eq_true rfl) ?_
      show gg p l e s m args below meth c G (d + 1) MX12_trusts Q 31 [some (.ref 82), some (.int a1), some (.int 0), none, none, none] [] h2
      refine go_iconst (v := (-1)) dX12_trusts_31 rfl ?_
      refine go_istore_n dX12_trusts_32 (Nat.le_of_ble_eq_true rfl) ?_
      show gg p l e s m args below meth c G (d + 1) MX12_trusts Q 33 [some (.ref 82), some (.int a1), some (.int 0), some (.int (-1)), none, none] [] h2
      refine go_iconst (v := (-1)) dX12_trusts_33 rfl ?_
      refine go_istore dX12_trusts_34 (Nat.le_of_ble_eq_true rfl) ?_
      show gg p l e s m args below meth c G (d + 1) MX12_trusts Q 36 [some (.ref 82), some (.int a1), some (.int 0), some (.int (-1)), some (.int (-1)), none] [] h2
      refine go_iconst (v := 0) dX12_trusts_36 rfl ?_
      refine go_istore dX12_trusts_37 (Nat.le_of_ble_eq_true rfl) ?_
      show gg p l e s m args below meth c G (d + 1) MX12_trusts Q 39 [some (.ref 82), some (.int a1), some (.int 0), some (.int (-1)), some (.int (-1)), some (.int 0)] [] h2
      exact vc
    · replace vc := vc.2 q
      refine go_iconst (v := (-1)) dX12_trusts_19 rfl ?_
      exact go_iret dX12_trusts_20 rfl vc rfl (Nat.le_refl _) (Nat.le_refl _)
set_option maxRecDepth 20000 in
theorem wX12_trusts_39 {p : Program} {l : Launch} {e : Env} {s : State} {m : MethodId} {args : Array Value} {below : List Frame} {meth : Method} {c : Code} {G : gG} {d : Nat} {Q : Option Value → gH → Prop} {h : gH} {lk sp : Nat} {cd : Option Nat} {x1 : Int32} {x2 : Int32} {x3 : Int32} {x4 : Int32} {x5 : Int32} (hR : h.2.2 = gRF lk sp cd) (hlk : lk = 30 ∨ lk = 67) (hsp : sp = 30 ∨ sp = 67)  (vc : ((99 < x5 → ((¬ x1 = 0 → ((¬ x1 = 1 → Q (some (.int x4)) h) ∧ (x1 = 1 → Q (some (.int x3)) h))) ∧ (x1 = 0 → Q (some (.int x2)) h))) ∧ (¬ 99 < x5 → gC l G d MX12_canTrust [.ref 82, .int x5] h (rI fun v1 h1 => h1.2.2 = (h).2.2 ∧ ((¬ v1 = 0 → ((¬ x3 = (-1) → gg p l e s m args below meth c G (d + 1) MX12_trusts Q 39 [some (.ref 82), some (.int x1), some (.int (x2 + 1)), some (.int x3), some (.int x5), some (.int (x5 + 1))] [] h1) ∧ (x3 = (-1) → gg p l e s m args below meth c G (d + 1) MX12_trusts Q 39 [some (.ref 82), some (.int x1), some (.int (x2 + 1)), some (.int x5), some (.int x5), some (.int (x5 + 1))] [] h1))) ∧ (v1 = 0 → gg p l e s m args below meth c G (d + 1) MX12_trusts Q 39 [some (.ref 82), some (.int x1), some (.int x2), some (.int x3), some (.int x4), some (.int (x5 + 1))] [] h1)))))) : gg p l e s m args below meth c G (d + 1) MX12_trusts Q 39 [some (.ref 82), some (.int x1), some (.int x2), some (.int x3), some (.int x4), some (.int x5)] [] h := by
  refine go_iload (x := x5) dX12_trusts_39 rfl ?_
  refine go_bipush (v := 99) dX12_trusts_41 rfl ?_
  refine go_icmp_gt 79 dX12_trusts_43 rfl (fun q => ?_) (fun q => ?_)
  · replace vc := vc.1 q
    refine go_iload_n (x := x1) dX12_trusts_79 rfl ?_
    refine go_if_ne 87 dX12_trusts_80 rfl (fun q => ?_) (fun q => ?_)
    · replace vc := vc.1 q
      refine go_iload_n (x := x1) dX12_trusts_87 rfl ?_
      refine go_iconst (v := 1) dX12_trusts_88 rfl ?_
      refine go_icmp_ne 96 dX12_trusts_89 rfl (fun q => ?_) (fun q => ?_)
      · replace vc := vc.1 q
        refine go_iload (x := x4) dX12_trusts_96 rfl ?_
        exact go_iret dX12_trusts_98 rfl vc rfl (Nat.le_refl _) (Nat.le_refl _)
      · replace vc := vc.2 q
        refine go_iload_n (x := x3) dX12_trusts_92 rfl ?_
        refine go_goto 98 dX12_trusts_93 rfl ?_
        exact go_iret dX12_trusts_98 rfl vc rfl (Nat.le_refl _) (Nat.le_refl _)
    · replace vc := vc.2 q
      refine go_iload_n (x := x2) dX12_trusts_83 rfl ?_
      refine go_goto 98 dX12_trusts_84 rfl ?_
      exact go_iret dX12_trusts_98 rfl vc rfl (Nat.le_refl _) (Nat.le_refl _)
  · replace vc := vc.2 q
    refine go_aload_n (x := 82) dX12_trusts_46 rfl ?_
    refine go_iload (x := x5) dX12_trusts_47 rfl ?_
    refine gvI1 MX12_canTrust dX12_trusts_49 lX12_650 kX12_canTrust vX12_canTrust sh82 (by decide) rfl (Nat.le_of_ble_eq_true rfl) vc ?_
    intro v1 h1 vc
    obtain ⟨hR1, vc⟩ := vc
    replace hR := hR1.trans hR
    refine go_if_ne 58 dX12_trusts_52 rfl (fun q => ?_) (fun q => ?_)
    · replace vc := vc.1 q
      refine go_iinc (x := x2) dX12_trusts_58 rfl ?_
      show gg p l e s m args below meth c G (d + 1) MX12_trusts Q 61 [some (.ref 82), some (.int x1), some (.int (x2 + 1)), some (.int x3), some (.int x4), some (.int x5)] [] h1
      refine go_iload_n (x := x3) dX12_trusts_61 rfl ?_
      refine go_iconst (v := (-1)) dX12_trusts_62 rfl ?_
      refine go_icmp_ne 69 dX12_trusts_63 rfl (fun q => ?_) (fun q => ?_)
      · replace vc := vc.1 q
        refine go_iload (x := x5) dX12_trusts_69 rfl ?_
        refine go_istore dX12_trusts_71 (Nat.le_of_ble_eq_true rfl) ?_
        show gg p l e s m args below meth c G (d + 1) MX12_trusts Q 73 [some (.ref 82), some (.int x1), some (.int (x2 + 1)), some (.int x3), some (.int x5), some (.int x5)] [] h1
        refine go_iinc (x := x5) dX12_trusts_73 rfl ?_
        show gg p l e s m args below meth c G (d + 1) MX12_trusts Q 76 [some (.ref 82), some (.int x1), some (.int (x2 + 1)), some (.int x3), some (.int x5), some (.int (x5 + 1))] [] h1
        refine go_goto 39 dX12_trusts_76 rfl ?_
        exact vc
      · replace vc := vc.2 q
        refine go_iload (x := x5) dX12_trusts_66 rfl ?_
        refine go_istore_n dX12_trusts_68 (Nat.le_of_ble_eq_true rfl) ?_
        show gg p l e s m args below meth c G (d + 1) MX12_trusts Q 69 [some (.ref 82), some (.int x1), some (.int (x2 + 1)), some (.int x5), some (.int x4), some (.int x5)] [] h1
        refine go_iload (x := x5) dX12_trusts_69 rfl ?_
        refine go_istore dX12_trusts_71 (Nat.le_of_ble_eq_true rfl) ?_
        show gg p l e s m args below meth c G (d + 1) MX12_trusts Q 73 [some (.ref 82), some (.int x1), some (.int (x2 + 1)), some (.int x5), some (.int x5), some (.int x5)] [] h1
        refine go_iinc (x := x5) dX12_trusts_73 rfl ?_
        show gg p l e s m args below meth c G (d + 1) MX12_trusts Q 76 [some (.ref 82), some (.int x1), some (.int (x2 + 1)), some (.int x5), some (.int x5), some (.int (x5 + 1))] [] h1
        refine go_goto 39 dX12_trusts_76 rfl ?_
        exact vc
    · replace vc := vc.2 q
      refine go_goto 73 dX12_trusts_55 rfl ?_
      refine go_iinc (x := x5) dX12_trusts_73 rfl ?_
      show gg p l e s m args below meth c G (d + 1) MX12_trusts Q 76 [some (.ref 82), some (.int x1), some (.int x2), some (.int x3), some (.int x4), some (.int (x5 + 1))] [] h1
      refine go_goto 39 dX12_trusts_76 rfl ?_
      exact vc
set_option maxRecDepth 20000 in
theorem wX12_next_0 {p : Program} {l : Launch} {e : Env} {s : State} {m : MethodId} {args : Array Value} {below : List Frame} {meth : Method} {c : Code} {G : gG} {d : Nat} {Q : Option Value → gH → Prop} {h : gH} {lk sp : Nat} {cd : Option Nat} {a1 : Int32} (hR : h.2.2 = gRF lk sp cd) (hlk : lk = 30 ∨ lk = 67) (hsp : sp = 30 ∨ sp = 67)  (vc : (((h.1 82 76) = 0 → Q (some (.int (-1))) h) ∧ (¬ (h.1 82 76) = 0 → gC l G d MX12_isIn [.long (a1 : Int32).toInt64, .long 0, .long 1] h (rI fun v1 h1 => h1.2.2 = (h).2.2 ∧ ((¬ v1 = 0 → gC l G d MX12_laysFears [.ref 82, .int (h1.1 82 77)] h1 (rV fun h2 => h2.2.2 = (h1).2.2 ∧ gg p l e s m args below meth c G (d + 1) MX12_next Q 34 [some (.ref 82), some (.int a1), some (.int (-1)), some (.int (-1)), some (.int 0), none, none, none] [] h2)) ∧ (v1 = 0 → Q (some (.int (-1))) h1)))))) : gg p l e s m args below meth c G (d + 1) MX12_next Q 0 [some (.ref 82), some (.int a1), none, none, none, none, none, none] [] h := by
  refine go_aload_n (x := 82) dX12_next_0 rfl ?_
  refine go_getI' (v := (h.1 82 76)) dX12_next_1 f12_428 sh82 (fun _ _ => rfl) rfl ?_
  refine go_if_eq 17 dX12_next_4 rfl (fun q => ?_) (fun q => ?_)
  · replace vc := vc.1 q
    refine go_iconst (v := (-1)) dX12_next_17 rfl ?_
    exact go_iret dX12_next_18 rfl vc rfl (Nat.le_refl _) (Nat.le_refl _)
  · replace vc := vc.2 q
    refine go_iload_n (x := a1) dX12_next_7 rfl ?_
    refine go_i2l dX12_next_8 ?_
    refine go_lconst (v := 0) dX12_next_9 rfl ?_
    refine go_lconst (v := 1) dX12_next_10 rfl ?_
    refine gsI3 MX12_isIn dX12_next_11 lX12_321 kX12_isIn sX12_isIn (Nat.le_of_ble_eq_true rfl) vc ?_
    intro v1 h1 vc
    obtain ⟨hR1, vc⟩ := vc
    replace hR := hR1.trans hR
    refine go_if_ne 19 dX12_next_14 rfl (fun q => ?_) (fun q => ?_)
    · replace vc := vc.1 q
      refine go_aload_n (x := 82) dX12_next_19 rfl ?_
      refine go_aload_n (x := 82) dX12_next_20 rfl ?_
      refine go_getI' (v := (h1.1 82 77)) dX12_next_21 f12_645 sh82 (fun _ _ => rfl) rfl ?_
      refine gvV1 MX12_laysFears dX12_next_24 lX12_590 kX12_laysFears vX12_laysFears sh82 (by decide) rfl (Nat.le_of_ble_eq_true rfl) vc ?_
      intro h2 vc
      obtain ⟨hR2, vc⟩ := vc
      replace hR := hR2.trans hR
      refine go_iconst (v := (-1)) dX12_next_27 rfl ?_
      refine go_istore_n dX12_next_28 (Nat.le_of_ble_eq_true rfl) ?_
      show gg p l e s m args below meth c G (d + 1) MX12_next Q 29 [some (.ref 82), some (.int a1), some (.int (-1)), none, none, none, none, none] [] h2
      refine go_iconst (v := (-1)) dX12_next_29 rfl ?_
      refine go_istore_n dX12_next_30 (Nat.le_of_ble_eq_true rfl) ?_
      show gg p l e s m args below meth c G (d + 1) MX12_next Q 31 [some (.ref 82), some (.int a1), some (.int (-1)), some (.int (-1)), none, none, none, none] [] h2
      refine go_iconst (v := 0) dX12_next_31 rfl ?_
      refine go_istore dX12_next_32 (Nat.le_of_ble_eq_true rfl) ?_
      show gg p l e s m args below meth c G (d + 1) MX12_next Q 34 [some (.ref 82), some (.int a1), some (.int (-1)), some (.int (-1)), some (.int 0), none, none, none] [] h2
      exact vc
    · replace vc := vc.2 q
      refine go_iconst (v := (-1)) dX12_next_17 rfl ?_
      exact go_iret dX12_next_18 rfl vc rfl (Nat.le_refl _) (Nat.le_refl _)
set_option maxRecDepth 20000 in
theorem wX12_next_34 {p : Program} {l : Launch} {e : Env} {s : State} {m : MethodId} {args : Array Value} {below : List Frame} {meth : Method} {c : Code} {G : gG} {d : Nat} {Q : Option Value → gH → Prop} {h : gH} {lk sp : Nat} {cd : Option Nat} {x1 : Int32} {x2 : Int32} {x3 : Int32} {x4 : Int32} (hR : h.2.2 = gRF lk sp cd) (hlk : lk = 30 ∨ lk = 67) (hsp : sp = 30 ∨ sp = 67)  (vc : gC l G d MX12_cellMany [.ref 82] h (rI fun v1 h1 => h1.2.2 = (h).2.2 ∧ ((v1 ≤ x4 → ((¬ x1 = 0 → Q (some (.int x3)) h1) ∧ (x1 = 0 → Q (some (.int x2)) h1))) ∧ (¬ v1 ≤ x4 → gg p l e s m args below meth c G (d + 1) MX12_next Q 52 [some (.ref 82), some (.int x1), some (.int x2), some (.int x3), some (.int x4), some (.int 0), some (.int 0), some (.int 0)] [] h1)))) : gg p l e s m args below meth c G (d + 1) MX12_next Q 34 [some (.ref 82), some (.int x1), some (.int x2), some (.int x3), some (.int x4), none, none, none] [] h := by
  refine go_iload (x := x4) dX12_next_34 rfl ?_
  refine go_aload_n (x := 82) dX12_next_36 rfl ?_
  refine gvI0 MX12_cellMany dX12_next_37 lX12_480 kX12_cellMany vX12_cellMany sh82 (by decide) rfl (Nat.le_of_ble_eq_true rfl) vc ?_
  intro v1 h1 vc
  obtain ⟨hR1, vc⟩ := vc
  replace hR := hR1.trans hR
  refine go_icmp_ge 151 dX12_next_40 rfl (fun q => ?_) (fun q => ?_)
  · replace vc := vc.1 q
    refine go_iload_n (x := x1) dX12_next_151 rfl ?_
    refine go_if_ne 159 dX12_next_152 rfl (fun q => ?_) (fun q => ?_)
    · replace vc := vc.1 q
      refine go_iload_n (x := x3) dX12_next_159 rfl ?_
      exact go_iret dX12_next_160 rfl vc rfl (Nat.le_refl _) (Nat.le_refl _)
    · replace vc := vc.2 q
      refine go_iload_n (x := x2) dX12_next_155 rfl ?_
      refine go_goto 160 dX12_next_156 rfl ?_
      exact go_iret dX12_next_160 rfl vc rfl (Nat.le_refl _) (Nat.le_refl _)
  · replace vc := vc.2 q
    refine go_iconst (v := 0) dX12_next_43 rfl ?_
    refine go_istore dX12_next_44 (Nat.le_of_ble_eq_true rfl) ?_
    show gg p l e s m args below meth c G (d + 1) MX12_next Q 46 [some (.ref 82), some (.int x1), some (.int x2), some (.int x3), some (.int x4), some (.int 0), none, none] [] h1
    refine go_iconst (v := 0) dX12_next_46 rfl ?_
    refine go_istore dX12_next_47 (Nat.le_of_ble_eq_true rfl) ?_
    show gg p l e s m args below meth c G (d + 1) MX12_next Q 49 [some (.ref 82), some (.int x1), some (.int x2), some (.int x3), some (.int x4), some (.int 0), some (.int 0), none] [] h1
    refine go_iconst (v := 0) dX12_next_49 rfl ?_
    refine go_istore dX12_next_50 (Nat.le_of_ble_eq_true rfl) ?_
    show gg p l e s m args below meth c G (d + 1) MX12_next Q 52 [some (.ref 82), some (.int x1), some (.int x2), some (.int x3), some (.int x4), some (.int 0), some (.int 0), some (.int 0)] [] h1
    exact vc
set_option maxRecDepth 20000 in
theorem wX12_next_52 {p : Program} {l : Launch} {e : Env} {s : State} {m : MethodId} {args : Array Value} {below : List Frame} {meth : Method} {c : Code} {G : gG} {d : Nat} {Q : Option Value → gH → Prop} {h : gH} {lk sp : Nat} {cd : Option Nat} {x1 : Int32} {x2 : Int32} {x3 : Int32} {x4 : Int32} {x5 : Int32} {x6 : Int32} {x7 : Int32} (hR : h.2.2 = gRF lk sp cd) (hlk : lk = 30 ∨ lk = 67) (hsp : sp = 30 ∨ sp = 67)  (vc : ((99 < x7 → (((x5 + x6) = 0 → gg p l e s m args below meth c G (d + 1) MX12_next Q 34 [some (.ref 82), some (.int x1), some (.int x2), some (.int x3), some (.int (x4 + 1)), none, none, none] [] h) ∧ (¬ (x5 + x6) = 0 → ((x3 = (-1) → gC l G d MX12_greater [.int x5, .int x6] h (rI fun v1 h1 => h1.2.2 = (h).2.2 ∧ gg p l e s m args below meth c G (d + 1) MX12_next Q 34 [some (.ref 82), some (.int x1), some (.int x4), some (.int v1), some (.int (x4 + 1)), none, none, none] [] h1)) ∧ (¬ x3 = (-1) → gC l G d MX12_greater [.int x5, .int x6] h (rI fun v2 h2 => h2.2.2 = (h).2.2 ∧ ((v2 < x3 → gC l G d MX12_greater [.int x5, .int x6] h2 (rI fun v3 h3 => h3.2.2 = (h2).2.2 ∧ gg p l e s m args below meth c G (d + 1) MX12_next Q 34 [some (.ref 82), some (.int x1), some (.int x4), some (.int v3), some (.int (x4 + 1)), none, none, none] [] h3)) ∧ (¬ v2 < x3 → gg p l e s m args below meth c G (d + 1) MX12_next Q 34 [some (.ref 82), some (.int x1), some (.int x2), some (.int x3), some (.int (x4 + 1)), none, none, none] [] h2)))))))) ∧ (¬ 99 < x7 → gC l G d MX12_isLand [.ref 82, .int x4] h (rI fun v4 h4 => h4.2.2 = (h).2.2 ∧ ((¬ v4 = 0 → (((x5 + x6) = 0 → gg p l e s m args below meth c G (d + 1) MX12_next Q 34 [some (.ref 82), some (.int x1), some (.int x2), some (.int x3), some (.int (x4 + 1)), none, none, none] [] h4) ∧ (¬ (x5 + x6) = 0 → ((x3 = (-1) → gC l G d MX12_greater [.int x5, .int x6] h4 (rI fun v5 h5 => h5.2.2 = (h4).2.2 ∧ gg p l e s m args below meth c G (d + 1) MX12_next Q 34 [some (.ref 82), some (.int x1), some (.int x4), some (.int v5), some (.int (x4 + 1)), none, none, none] [] h5)) ∧ (¬ x3 = (-1) → gC l G d MX12_greater [.int x5, .int x6] h4 (rI fun v6 h6 => h6.2.2 = (h4).2.2 ∧ ((v6 < x3 → gC l G d MX12_greater [.int x5, .int x6] h6 (rI fun v7 h7 => h7.2.2 = (h6).2.2 ∧ gg p l e s m args below meth c G (d + 1) MX12_next Q 34 [some (.ref 82), some (.int x1), some (.int x4), some (.int v7), some (.int (x4 + 1)), none, none, none] [] h7)) ∧ (¬ v6 < x3 → gg p l e s m args below meth c G (d + 1) MX12_next Q 34 [some (.ref 82), some (.int x1), some (.int x2), some (.int x3), some (.int (x4 + 1)), none, none, none] [] h6)))))))) ∧ (v4 = 0 → gC l G d MX12_canTrust [.ref 82, .int x7] h4 (rI fun v8 h8 => h8.2.2 = (h4).2.2 ∧ ((¬ v8 = 0 → (vp_in x4 48 ∧ ((x7 < (h8.1 135 x4.toNatClampNeg) → gg p l e s m args below meth c G (d + 1) MX12_next Q 52 [some (.ref 82), some (.int x1), some (.int x2), some (.int x3), some (.int x4), some (.int x5), some (.int (x6 + 1)), some (.int (x7 + 1))] [] h8) ∧ (¬ x7 < (h8.1 135 x4.toNatClampNeg) → gg p l e s m args below meth c G (d + 1) MX12_next Q 52 [some (.ref 82), some (.int x1), some (.int x2), some (.int x3), some (.int x4), some (.int (x5 + 1)), some (.int x6), some (.int (x7 + 1))] [] h8)))) ∧ (v8 = 0 → gg p l e s m args below meth c G (d + 1) MX12_next Q 52 [some (.ref 82), some (.int x1), some (.int x2), some (.int x3), some (.int x4), some (.int x5), some (.int x6), some (.int (x7 + 1))] [] h8))))))))) : gg p l e s m args below meth c G (d + 1) MX12_next Q 52 [some (.ref 82), some (.int x1), some (.int x2), some (.int x3), some (.int x4), some (.int x5), some (.int x6), some (.int x7)] [] h := by
  refine go_iload (x := x7) dX12_next_52 rfl ?_
  refine go_bipush (v := 99) dX12_next_54 rfl ?_
  refine go_icmp_gt 107 dX12_next_56 rfl (fun q => ?_) (fun q => ?_)
  · replace vc := vc.1 q
    refine go_iload (x := x5) dX12_next_107 rfl ?_
    refine go_iload (x := x6) dX12_next_109 rfl ?_
    refine go_iadd dX12_next_111 ?_
    refine go_if_eq 145 dX12_next_112 rfl (fun q => ?_) (fun q => ?_)
    · replace vc := vc.1 q
      refine go_iinc (x := x4) dX12_next_145 rfl ?_
      show gg p l e s m args below meth c G (d + 1) MX12_next Q 148 [some (.ref 82), some (.int x1), some (.int x2), some (.int x3), some (.int (x4 + 1)), some (.int x5), some (.int x6), some (.int x7)] [] h
      refine go_goto 34 dX12_next_148 rfl ?_
      refine go_weak (ls' := [some (.ref 82), some (.int x1), some (.int x2), some (.int x3), some (.int (x4 + 1)), none, none, none]) ?_ vc
      exact (⟨rfl, ⟨rfl, ⟨rfl, ⟨rfl, ⟨rfl, trivial⟩⟩⟩⟩⟩)
    · replace vc := vc.2 q
      refine go_iload_n (x := x3) dX12_next_115 rfl ?_
      refine go_iconst (v := (-1)) dX12_next_116 rfl ?_
      refine go_icmp_eq 134 dX12_next_117 rfl (fun q => ?_) (fun q => ?_)
      · replace vc := vc.1 q
        refine go_iload (x := x5) dX12_next_134 rfl ?_
        refine go_iload (x := x6) dX12_next_136 rfl ?_
        refine gsI2 MX12_greater dX12_next_138 lX12_599 kX12_greater sX12_greater (Nat.le_of_ble_eq_true rfl) vc ?_
        intro v1 h1 vc
        obtain ⟨hR1, vc⟩ := vc
        replace hR := hR1.trans hR
        refine go_istore_n dX12_next_141 (Nat.le_of_ble_eq_true rfl) ?_
        show gg p l e s m args below meth c G (d + 1) MX12_next Q 142 [some (.ref 82), some (.int x1), some (.int x2), some (.int v1), some (.int x4), some (.int x5), some (.int x6), some (.int x7)] [] h1
        refine go_iload (x := x4) dX12_next_142 rfl ?_
        refine go_istore_n dX12_next_144 (Nat.le_of_ble_eq_true rfl) ?_
        show gg p l e s m args below meth c G (d + 1) MX12_next Q 145 [some (.ref 82), some (.int x1), some (.int x4), some (.int v1), some (.int x4), some (.int x5), some (.int x6), some (.int x7)] [] h1
        refine go_iinc (x := x4) dX12_next_145 rfl ?_
        show gg p l e s m args below meth c G (d + 1) MX12_next Q 148 [some (.ref 82), some (.int x1), some (.int x4), some (.int v1), some (.int (x4 + 1)), some (.int x5), some (.int x6), some (.int x7)] [] h1
        refine go_goto 34 dX12_next_148 rfl ?_
        refine go_weak (ls' := [some (.ref 82), some (.int x1), some (.int x4), some (.int v1), some (.int (x4 + 1)), none, none, none]) ?_ vc
        exact (⟨rfl, ⟨rfl, ⟨rfl, ⟨rfl, ⟨rfl, trivial⟩⟩⟩⟩⟩)
      · replace vc := vc.2 q
        refine go_iload (x := x5) dX12_next_120 rfl ?_
        refine go_iload (x := x6) dX12_next_122 rfl ?_
        refine gsI2 MX12_greater dX12_next_124 lX12_599 kX12_greater sX12_greater (Nat.le_of_ble_eq_true rfl) vc ?_
        intro v2 h2 vc
        obtain ⟨hR2, vc⟩ := vc
        replace hR := hR2.trans hR
        refine go_iload_n (x := x3) dX12_next_127 rfl ?_
        refine go_icmp_lt 134 dX12_next_128 rfl (fun q => ?_) (fun q => ?_)
        · replace vc := vc.1 q
          refine go_iload (x := x5) dX12_next_134 rfl ?_
          refine go_iload (x := x6) dX12_next_136 rfl ?_
          refine gsI2 MX12_greater dX12_next_138 lX12_599 kX12_greater sX12_greater (Nat.le_of_ble_eq_true rfl) vc ?_
          intro v3 h3 vc
          obtain ⟨hR3, vc⟩ := vc
          replace hR := hR3.trans hR
          refine go_istore_n dX12_next_141 (Nat.le_of_ble_eq_true rfl) ?_
          show gg p l e s m args below meth c G (d + 1) MX12_next Q 142 [some (.ref 82), some (.int x1), some (.int x2), some (.int v3), some (.int x4), some (.int x5), some (.int x6), some (.int x7)] [] h3
          refine go_iload (x := x4) dX12_next_142 rfl ?_
          refine go_istore_n dX12_next_144 (Nat.le_of_ble_eq_true rfl) ?_
          show gg p l e s m args below meth c G (d + 1) MX12_next Q 145 [some (.ref 82), some (.int x1), some (.int x4), some (.int v3), some (.int x4), some (.int x5), some (.int x6), some (.int x7)] [] h3
          refine go_iinc (x := x4) dX12_next_145 rfl ?_
          show gg p l e s m args below meth c G (d + 1) MX12_next Q 148 [some (.ref 82), some (.int x1), some (.int x4), some (.int v3), some (.int (x4 + 1)), some (.int x5), some (.int x6), some (.int x7)] [] h3
          refine go_goto 34 dX12_next_148 rfl ?_
          refine go_weak (ls' := [some (.ref 82), some (.int x1), some (.int x4), some (.int v3), some (.int (x4 + 1)), none, none, none]) ?_ vc
          exact (⟨rfl, ⟨rfl, ⟨rfl, ⟨rfl, ⟨rfl, trivial⟩⟩⟩⟩⟩)
        · replace vc := vc.2 q
          refine go_goto 145 dX12_next_131 rfl ?_
          refine go_iinc (x := x4) dX12_next_145 rfl ?_
          show gg p l e s m args below meth c G (d + 1) MX12_next Q 148 [some (.ref 82), some (.int x1), some (.int x2), some (.int x3), some (.int (x4 + 1)), some (.int x5), some (.int x6), some (.int x7)] [] h2
          refine go_goto 34 dX12_next_148 rfl ?_
          refine go_weak (ls' := [some (.ref 82), some (.int x1), some (.int x2), some (.int x3), some (.int (x4 + 1)), none, none, none]) ?_ vc
          exact (⟨rfl, ⟨rfl, ⟨rfl, ⟨rfl, ⟨rfl, trivial⟩⟩⟩⟩⟩)
  · replace vc := vc.2 q
    refine go_aload_n (x := 82) dX12_next_59 rfl ?_
    refine go_iload (x := x4) dX12_next_60 rfl ?_
    refine gvI1 MX12_isLand dX12_next_62 lX12_492 kX12_isLand vX12_isLand sh82 (by decide) rfl (Nat.le_of_ble_eq_true rfl) vc ?_
    intro v4 h4 vc
    obtain ⟨hR4, vc⟩ := vc
    replace hR := hR4.trans hR
    refine go_if_ne 107 dX12_next_65 rfl (fun q => ?_) (fun q => ?_)
    · replace vc := vc.1 q
      refine go_iload (x := x5) dX12_next_107 rfl ?_
      refine go_iload (x := x6) dX12_next_109 rfl ?_
      refine go_iadd dX12_next_111 ?_
      refine go_if_eq 145 dX12_next_112 rfl (fun q => ?_) (fun q => ?_)
      · replace vc := vc.1 q
        refine go_iinc (x := x4) dX12_next_145 rfl ?_
        show gg p l e s m args below meth c G (d + 1) MX12_next Q 148 [some (.ref 82), some (.int x1), some (.int x2), some (.int x3), some (.int (x4 + 1)), some (.int x5), some (.int x6), some (.int x7)] [] h4
        refine go_goto 34 dX12_next_148 rfl ?_
        refine go_weak (ls' := [some (.ref 82), some (.int x1), some (.int x2), some (.int x3), some (.int (x4 + 1)), none, none, none]) ?_ vc
        exact (⟨rfl, ⟨rfl, ⟨rfl, ⟨rfl, ⟨rfl, trivial⟩⟩⟩⟩⟩)
      · replace vc := vc.2 q
        refine go_iload_n (x := x3) dX12_next_115 rfl ?_
        refine go_iconst (v := (-1)) dX12_next_116 rfl ?_
        refine go_icmp_eq 134 dX12_next_117 rfl (fun q => ?_) (fun q => ?_)
        · replace vc := vc.1 q
          refine go_iload (x := x5) dX12_next_134 rfl ?_
          refine go_iload (x := x6) dX12_next_136 rfl ?_
          refine gsI2 MX12_greater dX12_next_138 lX12_599 kX12_greater sX12_greater (Nat.le_of_ble_eq_true rfl) vc ?_
          intro v5 h5 vc
          obtain ⟨hR5, vc⟩ := vc
          replace hR := hR5.trans hR
          refine go_istore_n dX12_next_141 (Nat.le_of_ble_eq_true rfl) ?_
          show gg p l e s m args below meth c G (d + 1) MX12_next Q 142 [some (.ref 82), some (.int x1), some (.int x2), some (.int v5), some (.int x4), some (.int x5), some (.int x6), some (.int x7)] [] h5
          refine go_iload (x := x4) dX12_next_142 rfl ?_
          refine go_istore_n dX12_next_144 (Nat.le_of_ble_eq_true rfl) ?_
          show gg p l e s m args below meth c G (d + 1) MX12_next Q 145 [some (.ref 82), some (.int x1), some (.int x4), some (.int v5), some (.int x4), some (.int x5), some (.int x6), some (.int x7)] [] h5
          refine go_iinc (x := x4) dX12_next_145 rfl ?_
          show gg p l e s m args below meth c G (d + 1) MX12_next Q 148 [some (.ref 82), some (.int x1), some (.int x4), some (.int v5), some (.int (x4 + 1)), some (.int x5), some (.int x6), some (.int x7)] [] h5
          refine go_goto 34 dX12_next_148 rfl ?_
          refine go_weak (ls' := [some (.ref 82), some (.int x1), some (.int x4), some (.int v5), some (.int (x4 + 1)), none, none, none]) ?_ vc
          exact (⟨rfl, ⟨rfl, ⟨rfl, ⟨rfl, ⟨rfl, trivial⟩⟩⟩⟩⟩)
        · replace vc := vc.2 q
          refine go_iload (x := x5) dX12_next_120 rfl ?_
          refine go_iload (x := x6) dX12_next_122 rfl ?_
          refine gsI2 MX12_greater dX12_next_124 lX12_599 kX12_greater sX12_greater (Nat.le_of_ble_eq_true rfl) vc ?_
          intro v6 h6 vc
          obtain ⟨hR6, vc⟩ := vc
          replace hR := hR6.trans hR
          refine go_iload_n (x := x3) dX12_next_127 rfl ?_
          refine go_icmp_lt 134 dX12_next_128 rfl (fun q => ?_) (fun q => ?_)
          · replace vc := vc.1 q
            refine go_iload (x := x5) dX12_next_134 rfl ?_
            refine go_iload (x := x6) dX12_next_136 rfl ?_
            refine gsI2 MX12_greater dX12_next_138 lX12_599 kX12_greater sX12_greater (Nat.le_of_ble_eq_true rfl) vc ?_
            intro v7 h7 vc
            obtain ⟨hR7, vc⟩ := vc
            replace hR := hR7.trans hR
            refine go_istore_n dX12_next_141 (Nat.le_of_ble_eq_true rfl) ?_
            show gg p l e s m args below meth c G (d + 1) MX12_next Q 142 [some (.ref 82), some (.int x1), some (.int x2), some (.int v7), some (.int x4), some (.int x5), some (.int x6), some (.int x7)] [] h7
            refine go_iload (x := x4) dX12_next_142 rfl ?_
            refine go_istore_n dX12_next_144 (Nat.le_of_ble_eq_true rfl) ?_
            show gg p l e s m args below meth c G (d + 1) MX12_next Q 145 [some (.ref 82), some (.int x1), some (.int x4), some (.int v7), some (.int x4), some (.int x5), some (.int x6), some (.int x7)] [] h7
            refine go_iinc (x := x4) dX12_next_145 rfl ?_
            show gg p l e s m args below meth c G (d + 1) MX12_next Q 148 [some (.ref 82), some (.int x1), some (.int x4), some (.int v7), some (.int (x4 + 1)), some (.int x5), some (.int x6), some (.int x7)] [] h7
            refine go_goto 34 dX12_next_148 rfl ?_
            refine go_weak (ls' := [some (.ref 82), some (.int x1), some (.int x4), some (.int v7), some (.int (x4 + 1)), none, none, none]) ?_ vc
            exact (⟨rfl, ⟨rfl, ⟨rfl, ⟨rfl, ⟨rfl, trivial⟩⟩⟩⟩⟩)
          · replace vc := vc.2 q
            refine go_goto 145 dX12_next_131 rfl ?_
            refine go_iinc (x := x4) dX12_next_145 rfl ?_
            show gg p l e s m args below meth c G (d + 1) MX12_next Q 148 [some (.ref 82), some (.int x1), some (.int x2), some (.int x3), some (.int (x4 + 1)), some (.int x5), some (.int x6), some (.int x7)] [] h6
            refine go_goto 34 dX12_next_148 rfl ?_
            refine go_weak (ls' := [some (.ref 82), some (.int x1), some (.int x2), some (.int x3), some (.int (x4 + 1)), none, none, none]) ?_ vc
            exact (⟨rfl, ⟨rfl, ⟨rfl, ⟨rfl, ⟨rfl, trivial⟩⟩⟩⟩⟩)
    · replace vc := vc.2 q
      refine go_aload_n (x := 82) dX12_next_68 rfl ?_
      refine go_iload (x := x7) dX12_next_69 rfl ?_
      refine gvI1 MX12_canTrust dX12_next_71 lX12_650 kX12_canTrust vX12_canTrust sh82 (by decide) rfl (Nat.le_of_ble_eq_true rfl) vc ?_
      intro v8 h8 vc
      obtain ⟨hR8, vc⟩ := vc
      replace hR := hR8.trans hR
      refine go_if_ne 80 dX12_next_74 rfl (fun q => ?_) (fun q => ?_)
      · replace vc := vc.1 q
        refine go_aload_n (x := 82) dX12_next_80 rfl ?_
        refine go_getR (x := 135) dX12_next_81 f12_172 sh82 (fun _ _ => rfl) (rf82_70 hR) ?_
        refine go_iload (x := x4) dX12_next_84 rfl ?_
        refine go_iald' (v := (h8.1 135 x4.toNatClampNeg)) dX12_next_86 sh135 vc.1 rfl ?_
        have vc := vc.2
        refine go_iload (x := x7) dX12_next_87 rfl ?_
        refine go_icmp_gt 98 dX12_next_89 rfl (fun q => ?_) (fun q => ?_)
        · replace vc := vc.1 q
          refine go_iinc (x := x6) dX12_next_98 rfl ?_
          show gg p l e s m args below meth c G (d + 1) MX12_next Q 101 [some (.ref 82), some (.int x1), some (.int x2), some (.int x3), some (.int x4), some (.int x5), some (.int (x6 + 1)), some (.int x7)] [] h8
          refine go_iinc (x := x7) dX12_next_101 rfl ?_
          show gg p l e s m args below meth c G (d + 1) MX12_next Q 104 [some (.ref 82), some (.int x1), some (.int x2), some (.int x3), some (.int x4), some (.int x5), some (.int (x6 + 1)), some (.int (x7 + 1))] [] h8
          refine go_goto 52 dX12_next_104 rfl ?_
          exact vc
        · replace vc := vc.2 q
          refine go_iinc (x := x5) dX12_next_92 rfl ?_
          show gg p l e s m args below meth c G (d + 1) MX12_next Q 95 [some (.ref 82), some (.int x1), some (.int x2), some (.int x3), some (.int x4), some (.int (x5 + 1)), some (.int x6), some (.int x7)] [] h8
          refine go_goto 101 dX12_next_95 rfl ?_
          refine go_iinc (x := x7) dX12_next_101 rfl ?_
          show gg p l e s m args below meth c G (d + 1) MX12_next Q 104 [some (.ref 82), some (.int x1), some (.int x2), some (.int x3), some (.int x4), some (.int (x5 + 1)), some (.int x6), some (.int (x7 + 1))] [] h8
          refine go_goto 52 dX12_next_104 rfl ?_
          exact vc
      · replace vc := vc.2 q
        refine go_goto 101 dX12_next_77 rfl ?_
        refine go_iinc (x := x7) dX12_next_101 rfl ?_
        show gg p l e s m args below meth c G (d + 1) MX12_next Q 104 [some (.ref 82), some (.int x1), some (.int x2), some (.int x3), some (.int x4), some (.int x5), some (.int x6), some (.int (x7 + 1))] [] h8
        refine go_goto 52 dX12_next_104 rfl ?_
        exact vc
