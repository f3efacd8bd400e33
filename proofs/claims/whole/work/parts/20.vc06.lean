set_option maxRecDepth 20000 in
theorem wX11_drift_0 {p : Program} {l : Launch} {e : Env} {s : State} {m : MethodId} {args : Array Value} {below : List Frame} {meth : Method} {c : Code} {G : gG} {d : Nat} {Q : Option Value → gH → Prop} {h : gH} {lk sp : Nat} {cd : Option Nat} {a1 : Int32} (hR : h.2.2 = gRF lk sp cd) (hlk : lk = 30 ∨ lk = 67) (hsp : sp = 30 ∨ sp = 67)  (vc : gC l G d MX11_canPass [.ref 0, .int a1, .int 50] h (rI fun v1 h1 => h1.2.2 = (h).2.2 ∧ ((¬ v1 = 0 → gC l G d MX2_remember [.ref 6] h1 (rV fun h2 => h2.2.2 = (h1).2.2 ∧ gg p l e s m args below meth c G (d + 1) MX11_drift Q 27 [some (.ref 0), some (.int a1), some (.int 0), some (.int 0), none] [] h2)) ∧ (v1 = 0 → gC l G d MX11_refuse [.ref 0, .int 3] h1 (rI fun v3 h3 => h3.2.2 = (h1).2.2 ∧ Q (some (.int v3)) h3))))) : gg p l e s m args below meth c G (d + 1) MX11_drift Q 0 [some (.ref 0), some (.int a1), none, none, none] [] h := by
  refine go_aload_n (x := 0) dX11_drift_0 rfl ?_
  refine go_iload_n (x := a1) dX11_drift_1 rfl ?_
  refine go_bipush (v := 50) dX11_drift_2 rfl ?_
  refine gvI2 MX11_canPass dX11_drift_4 lX11_337 kX11_canPass vX11_canPass sh0 (by decide) rfl (Nat.le_of_ble_eq_true rfl) vc ?_
  intro v1 h1 vc
  obtain ⟨hR1, vc⟩ := vc
  replace hR := hR1.trans hR
  refine go_if_ne 16 dX11_drift_7 rfl (fun q => ?_) (fun q => ?_)
  · replace vc := vc.1 q
    refine go_aload_n (x := 0) dX11_drift_16 rfl ?_
    refine go_getR (x := 6) dX11_drift_17 f11_37 sh0 (fun _ _ => rfl) (rf0_3 hR) ?_
    refine gvV0 MX2_remember dX11_drift_20 lX11_306 kX2_remember vX2_remember sh6 (by decide) rfl (Nat.le_of_ble_eq_true rfl) vc ?_
    intro h2 vc
    obtain ⟨hR2, vc⟩ := vc
    replace hR := hR2.trans hR
    refine go_iconst (v := 0) dX11_drift_23 rfl ?_
    refine go_istore_n dX11_drift_24 (Nat.le_of_ble_eq_true rfl) ?_
    show gg p l e s m args below meth c G (d + 1) MX11_drift Q 25 [some (.ref 0), some (.int a1), some (.int 0), none, none] [] h2
    refine go_iconst (v := 0) dX11_drift_25 rfl ?_
    refine go_istore_n dX11_drift_26 (Nat.le_of_ble_eq_true rfl) ?_
    show gg p l e s m args below meth c G (d + 1) MX11_drift Q 27 [some (.ref 0), some (.int a1), some (.int 0), some (.int 0), none] [] h2
    exact vc
  · replace vc := vc.2 q
    refine go_aload_n (x := 0) dX11_drift_10 rfl ?_
    refine go_iconst (v := 3) dX11_drift_11 rfl ?_
    refine gvI1 MX11_refuse dX11_drift_12 lX11_105 kX11_refuse vX11_refuse sh0 (by decide) rfl (Nat.le_of_ble_eq_true rfl) vc ?_
    intro v3 h3 vc
    obtain ⟨hR3, vc⟩ := vc
    replace hR := hR3.trans hR
    exact go_iret dX11_drift_15 rfl vc rfl (Nat.le_refl _) (Nat.le_refl _)
set_option maxRecDepth 20000 in
theorem wX11_drift_27 {p : Program} {l : Launch} {e : Env} {s : State} {m : MethodId} {args : Array Value} {below : List Frame} {meth : Method} {c : Code} {G : gG} {d : Nat} {Q : Option Value → gH → Prop} {h : gH} {lk sp : Nat} {cd : Option Nat} {x1 : Int32} {x2 : Int32} {x3 : Int32} (hR : h.2.2 = gRF lk sp cd) (hlk : lk = 30 ∨ lk = 67) (hsp : sp = 30 ∨ sp = 67)  (vc : ((x1 ≤ x3 → Q (some (.int x2)) h) ∧ (¬ x1 ≤ x3 → gg p l e s m args below meth c G (d + 1) MX11_drift Q 35 [some (.ref 0), some (.int x1), some (.int x2), some (.int x3), some (.int 0)] [] h))) : gg p l e s m args below meth c G (d + 1) MX11_drift Q 27 [some (.ref 0), some (.int x1), some (.int x2), some (.int x3), none] [] h := by
  refine go_iload_n (x := x3) dX11_drift_27 rfl ?_
  refine go_iload_n (x := x1) dX11_drift_28 rfl ?_
  refine go_icmp_ge 79 dX11_drift_29 rfl (fun q => ?_) (fun q => ?_)
  · replace vc := vc.1 q
    refine go_iload_n (x := x2) dX11_drift_79 rfl ?_
    exact go_iret dX11_drift_80 rfl vc rfl (Nat.le_refl _) (Nat.le_refl _)
  · replace vc := vc.2 q
    refine go_iconst (v := 0) dX11_drift_32 rfl ?_
    refine go_istore dX11_drift_33 (Nat.le_of_ble_eq_true rfl) ?_
    show gg p l e s m args below meth c G (d + 1) MX11_drift Q 35 [some (.ref 0), some (.int x1), some (.int x2), some (.int x3), some (.int 0)] [] h
    exact vc
set_option maxRecDepth 20000 in
theorem wX11_drift_35 {p : Program} {l : Launch} {e : Env} {s : State} {m : MethodId} {args : Array Value} {below : List Frame} {meth : Method} {c : Code} {G : gG} {d : Nat} {Q : Option Value → gH → Prop} {h : gH} {lk sp : Nat} {cd : Option Nat} {x1 : Int32} {x2 : Int32} {x3 : Int32} {x4 : Int32} (hR : h.2.2 = gRF lk sp cd) (hlk : lk = 30 ∨ lk = 67) (hsp : sp = 30 ∨ sp = 67)  (vc : (((h.1 lk 13) ≤ x4 → gC l G d MX2_passHours [.ref 6, .int 1] h (rV fun h1 => h1.2.2 = (h).2.2 ∧ gg p l e s m args below meth c G (d + 1) MX11_drift Q 27 [some (.ref 0), some (.int x1), some (.int x2), some (.int (x3 + 1)), none] [] h1)) ∧ (¬ (h.1 lk 13) ≤ x4 → gC l G d MX11_driftOnce [.ref 0, .int x4] h (rI fun v2 h2 => h2.2.2 = (h).2.2 ∧ gg p l e s m args below meth c G (d + 1) MX11_drift Q 35 [some (.ref 0), some (.int x1), some (.int (x2 + v2)), some (.int x3), some (.int (x4 + 1))] [] h2)))) : gg p l e s m args below meth c G (d + 1) MX11_drift Q 35 [some (.ref 0), some (.int x1), some (.int x2), some (.int x3), some (.int x4)] [] h := by
  refine go_iload (x := x4) dX11_drift_35 rfl ?_
  refine go_aload_n (x := 0) dX11_drift_37 rfl ?_
  refine go_getR (x := 29) dX11_drift_38 f11_49 sh0 (fun _ _ => rfl) (rf0_4 hR) ?_
  refine go_getR (x := lk) dX11_drift_41 f11_117 sh29 (fun _ _ => rfl) (rf29_2 hR) ?_
  refine go_getI' (v := (h.1 lk 13)) dX11_drift_44 f11_142 (slx hlk) (fun _ _ => rfl) rfl ?_
  refine go_icmp_ge 65 dX11_drift_47 rfl (fun q => ?_) (fun q => ?_)
  · replace vc := vc.1 q
    refine go_aload_n (x := 0) dX11_drift_65 rfl ?_
    refine go_getR (x := 6) dX11_drift_66 f11_37 sh0 (fun _ _ => rfl) (rf0_3 hR) ?_
    refine go_iconst (v := 1) dX11_drift_69 rfl ?_
    refine gvV1 MX2_passHours dX11_drift_70 lX11_340 kX2_passHours vX2_passHours sh6 (by decide) rfl (Nat.le_of_ble_eq_true rfl) vc ?_
    intro h1 vc
    obtain ⟨hR1, vc⟩ := vc
    replace hR := hR1.trans hR
    refine go_iinc (x := x3) dX11_drift_73 rfl ?_
    show gg p l e s m args below meth c G (d + 1) MX11_drift Q 76 [some (.ref 0), some (.int x1), some (.int x2), some (.int (x3 + 1)), some (.int x4)] [] h1
    refine go_goto 27 dX11_drift_76 rfl ?_
    refine go_weak (ls' := [some (.ref 0), some (.int x1), some (.int x2), some (.int (x3 + 1)), none]) ?_ vc
    exact (⟨rfl, ⟨rfl, ⟨rfl, ⟨rfl, trivial⟩⟩⟩⟩)
  · replace vc := vc.2 q
    refine go_iload_n (x := x2) dX11_drift_50 rfl ?_
    refine go_aload_n (x := 0) dX11_drift_51 rfl ?_
    refine go_iload (x := x4) dX11_drift_52 rfl ?_
    refine gvI1 MX11_driftOnce dX11_drift_54 lX11_343 kX11_driftOnce vX11_driftOnce sh0 (by decide) rfl (Nat.le_of_ble_eq_true rfl) vc ?_
    intro v2 h2 vc
    obtain ⟨hR2, vc⟩ := vc
    replace hR := hR2.trans hR
    refine go_iadd dX11_drift_57 ?_
    refine go_istore_n dX11_drift_58 (Nat.le_of_ble_eq_true rfl) ?_
    show gg p l e s m args below meth c G (d + 1) MX11_drift Q 59 [some (.ref 0), some (.int x1), some (.int (x2 + v2)), some (.int x3), some (.int x4)] [] h2
    refine go_iinc (x := x4) dX11_drift_59 rfl ?_
    show gg p l e s m args below meth c G (d + 1) MX11_drift Q 62 [some (.ref 0), some (.int x1), some (.int (x2 + v2)), some (.int x3), some (.int (x4 + 1))] [] h2
    refine go_goto 35 dX11_drift_62 rfl ?_
    exact vc
set_option maxRecDepth 20000 in
theorem wX11_undo_0 {p : Program} {l : Launch} {e : Env} {s : State} {m : MethodId} {args : Array Value} {below : List Frame} {meth : Method} {c : Code} {G : gG} {d : Nat} {Q : Option Value → gH → Prop} {h : gH} {lk sp : Nat} {cd : Option Nat}  (hR : h.2.2 = gRF lk sp cd) (hlk : lk = 30 ∨ lk = 67) (hsp : sp = 30 ∨ sp = 67)  (vc : gC l G d MX2_goBack [.ref 6] h (rI fun v1 h1 => h1.2.2 = (h).2.2 ∧ ((¬ v1 = 0 → Q (some (.int 1)) h1) ∧ (v1 = 0 → gC l G d MX11_refuse [.ref 0, .int 4] h1 (rI fun v2 h2 => h2.2.2 = (h1).2.2 ∧ Q (some (.int 0)) h2))))) : gg p l e s m args below meth c G (d + 1) MX11_undo Q 0 [some (.ref 0)] [] h := by
  refine go_aload_n (x := 0) dX11_undo_0 rfl ?_
  refine go_getR (x := 6) dX11_undo_1 f11_37 sh0 (fun _ _ => rfl) (rf0_3 hR) ?_
  refine gvI0 MX2_goBack dX11_undo_4 lX11_346 kX2_goBack vX2_goBack sh6 (by decide) rfl (Nat.le_of_ble_eq_true rfl) vc ?_
  intro v1 h1 vc
  obtain ⟨hR1, vc⟩ := vc
  replace hR := hR1.trans hR
  refine go_if_ne 18 dX11_undo_7 rfl (fun q => ?_) (fun q => ?_)
  · replace vc := vc.1 q
    refine go_iconst (v := 1) dX11_undo_18 rfl ?_
    exact go_zret dX11_undo_19 rfl (by decide) vc rfl (Nat.le_refl _) (Nat.le_refl _)
  · replace vc := vc.2 q
    refine go_aload_n (x := 0) dX11_undo_10 rfl ?_
    refine go_iconst (v := 4) dX11_undo_11 rfl ?_
    refine gvI1 MX11_refuse dX11_undo_12 lX11_105 kX11_refuse vX11_refuse sh0 (by decide) rfl (Nat.le_of_ble_eq_true rfl) vc ?_
    intro v2 h2 vc
    obtain ⟨hR2, vc⟩ := vc
    replace hR := hR2.trans hR
    refine go_pop dX11_undo_15 rfl ?_
    refine go_iconst (v := 0) dX11_undo_16 rfl ?_
    exact go_zret dX11_undo_17 rfl (by decide) vc rfl (Nat.le_refl _) (Nat.le_refl _)
set_option maxRecDepth 20000 in
theorem wX11_seed_0 {p : Program} {l : Launch} {e : Env} {s : State} {m : MethodId} {args : Array Value} {below : List Frame} {meth : Method} {c : Code} {G : gG} {d : Nat} {Q : Option Value → gH → Prop} {h : gH} {lk sp : Nat} {cd : Option Nat} {a1 : Int32} (hR : h.2.2 = gRF lk sp cd) (hlk : lk = 30 ∨ lk = 67) (hsp : sp = 30 ∨ sp = 67)  (vc : ((0 ≤ a1 → Q (some (.int 1)) (sL h 0 13 (a1 : Int32).toInt64)) ∧ (¬ 0 ≤ a1 → gC l G d MX11_refuse [.ref 0, .int 5] h (rI fun v1 h1 => h1.2.2 = (h).2.2 ∧ Q (some (.int 0)) h1)))) : gg p l e s m args below meth c G (d + 1) MX11_seed Q 0 [some (.ref 0), some (.int a1)] [] h := by
  refine go_iload_n (x := a1) dX11_seed_0 rfl ?_
  refine go_if_ge 12 dX11_seed_1 rfl (fun q => ?_) (fun q => ?_)
  · replace vc := vc.1 q
    refine go_aload_n (x := 0) dX11_seed_12 rfl ?_
    refine go_iload_n (x := a1) dX11_seed_13 rfl ?_
    refine go_i2l dX11_seed_14 ?_
    refine go_putL dX11_seed_15 f11_98 sh0 rfl rfl ?_
    refine go_iconst (v := 1) dX11_seed_18 rfl ?_
    exact go_zret dX11_seed_19 rfl (by decide) vc rfl (Nat.le_refl _) (Nat.le_refl _)
  · replace vc := vc.2 q
    refine go_aload_n (x := 0) dX11_seed_4 rfl ?_
    refine go_iconst (v := 5) dX11_seed_5 rfl ?_
    refine gvI1 MX11_refuse dX11_seed_6 lX11_105 kX11_refuse vX11_refuse sh0 (by decide) rfl (Nat.le_of_ble_eq_true rfl) vc ?_
    intro v1 h1 vc
    obtain ⟨hR1, vc⟩ := vc
    replace hR := hR1.trans hR
    refine go_pop dX11_seed_9 rfl ?_
    refine go_iconst (v := 0) dX11_seed_10 rfl ?_
    exact go_zret dX11_seed_11 rfl (by decide) vc rfl (Nat.le_refl _) (Nat.le_refl _)
set_option maxRecDepth 20000 in
theorem wX11_ask_0 {p : Program} {l : Launch} {e : Env} {s : State} {m : MethodId} {args : Array Value} {below : List Frame} {meth : Method} {c : Code} {G : gG} {d : Nat} {Q : Option Value → gH → Prop} {h : gH} {lk sp : Nat} {cd : Option Nat} {a1 : Int32} (hR : h.2.2 = gRF lk sp cd) (hlk : lk = 30 ∨ lk = 67) (hsp : sp = 30 ∨ sp = 67)  (vc : gC l G d MX4_isBoat [.ref lk, .int a1] h (rI fun v1 h1 => h1.2.2 = (h).2.2 ∧ ((¬ v1 = 0 → gC l G d MX0_clear [.ref 61] h1 (rV fun h2 => h2.2.2 = (h1).2.2 ∧ gC l G d MX3_readQuestion [.ref 4, .ref 61] h2 (rI fun v3 h3 => (∃ cd3, h3.2.2 = gRF lk sp cd3) ∧ ((¬ v3 = (-1) → gC l G d MX11_answer [.ref 0, .int v3, .int a1] (sI h3 1 2 0) (rL fun v4 h4 => h4.2.2 = ((sI h3 1 2 0)).2.2 ∧ Q (some (.long v4)) h4)) ∧ (v3 = (-1) → Q (some (.long (-1000000000000000))) (sI h3 1 2 0)))))) ∧ (v1 = 0 → Q (some (.long (-1000000000000000))) (sI h1 1 2 0))))) : gg p l e s m args below meth c G (d + 1) MX11_ask Q 0 [some (.ref 0), some (.int a1), none] [] h := by
  refine go_aload_n (x := 0) dX11_ask_0 rfl ?_
  refine go_getR (x := 29) dX11_ask_1 f11_49 sh0 (fun _ _ => rfl) (rf0_4 hR) ?_
  refine go_getR (x := lk) dX11_ask_4 f11_117 sh29 (fun _ _ => rfl) (rf29_2 hR) ?_
  refine go_iload_n (x := a1) dX11_ask_7 rfl ?_
  refine gvI1 MX4_isBoat dX11_ask_8 lX11_170 kX4_isBoat vX4_isBoat (slx hlk) (by decide) rfl (Nat.le_of_ble_eq_true rfl) vc ?_
  intro v1 h1 vc
  obtain ⟨hR1, vc⟩ := vc
  replace hR := hR1.trans hR
  refine go_if_ne 26 dX11_ask_11 rfl (fun q => ?_) (fun q => ?_)
  · replace vc := vc.1 q
    refine go_aload_n (x := 0) dX11_ask_26 rfl ?_
    refine go_getR (x := 61) dX11_ask_27 f11_79 sh0 (fun _ _ => rfl) (rf0_8 hR) ?_
    refine gvV0 MX0_clear dX11_ask_30 lX11_352 kX0_clear vX0_clear sh61 (by decide) rfl (Nat.le_of_ble_eq_true rfl) vc ?_
    intro h2 vc
    obtain ⟨hR2, vc⟩ := vc
    replace hR := hR2.trans hR
    refine go_aload_n (x := 0) dX11_ask_33 rfl ?_
    refine go_getR (x := 4) dX11_ask_34 f11_21 sh0 (fun _ _ => rfl) (rf0_1 hR) ?_
    refine go_aload_n (x := 0) dX11_ask_37 rfl ?_
    refine go_getR (x := 61) dX11_ask_38 f11_79 sh0 (fun _ _ => rfl) (rf0_8 hR) ?_
    refine gvI1 MX3_readQuestion dX11_ask_41 lX11_355 kX3_readQuestion vX3_readQuestion sh4 (by decide) rfl (Nat.le_of_ble_eq_true rfl) vc ?_
    intro v3 h3 vc
    obtain ⟨⟨cd3, hR⟩, vc⟩ := vc
    refine go_istore_n dX11_ask_44 (Nat.le_of_ble_eq_true rfl) ?_
    show gg p l e s m args below meth c G (d + 1) MX11_ask Q 45 [some (.ref 0), some (.int a1), some (.int v3)] [] h3
    refine go_aload_n (x := 0) dX11_ask_45 rfl ?_
    refine go_getR (x := 1) dX11_ask_46 f11_12 sh0 (fun _ _ => rfl) (rf0_0 hR) ?_
    refine go_iconst (v := 0) dX11_ask_49 rfl ?_
    refine go_putI dX11_ask_50 f11_102 sh1 rfl rfl ?_
    refine go_iload_n (x := v3) dX11_ask_53 rfl ?_
    refine go_iconst (v := (-1)) dX11_ask_54 rfl ?_
    refine go_icmp_ne 64 dX11_ask_55 rfl (fun q => ?_) (fun q => ?_)
    · replace vc := vc.1 q
      refine go_aload_n (x := 0) dX11_ask_64 rfl ?_
      refine go_iload_n (x := v3) dX11_ask_65 rfl ?_
      refine go_iload_n (x := a1) dX11_ask_66 rfl ?_
      refine gvL2 MX11_answer dX11_ask_67 lX11_359 kX11_answer vX11_answer sh0 (by decide) rfl (Nat.le_of_ble_eq_true rfl) vc ?_
      intro v4 h4 vc
      obtain ⟨hR4, vc⟩ := vc
      replace hR := hR4.trans hR
      exact go_lret dX11_ask_70 rfl vc rfl (Nat.le_refl _) (Nat.le_refl _)
    · replace vc := vc.2 q
      refine go_ldc2 (v := (-1000000000000000)) dX11_ask_58 nX11_350 ?_
      refine go_goto 70 dX11_ask_61 rfl ?_
      exact go_lret dX11_ask_70 rfl vc rfl (Nat.le_refl _) (Nat.le_refl _)
  · replace vc := vc.2 q
    refine go_aload_n (x := 0) dX11_ask_14 rfl ?_
    refine go_getR (x := 1) dX11_ask_15 f11_12 sh0 (fun _ _ => rfl) (rf0_0 hR) ?_
    refine go_iconst (v := 0) dX11_ask_18 rfl ?_
    refine go_putI dX11_ask_19 f11_102 sh1 rfl rfl ?_
    refine go_ldc2 (v := (-1000000000000000)) dX11_ask_22 nX11_350 ?_
    exact go_lret dX11_ask_25 rfl vc rfl (Nat.le_refl _) (Nat.le_refl _)
set_option maxRecDepth 20000 in
theorem wX11_image_0 {p : Program} {l : Launch} {e : Env} {s : State} {m : MethodId} {args : Array Value} {below : List Frame} {meth : Method} {c : Code} {G : gG} {d : Nat} {Q : Option Value → gH → Prop} {h : gH} {lk sp : Nat} {cd : Option Nat}  (hR : h.2.2 = gRF lk sp cd) (hlk : lk = 30 ∨ lk = 67) (hsp : sp = 30 ∨ sp = 67)  (vc : gC l G d MX2_hour [.ref 6] h (rI fun v1 h1 => h1.2.2 = (h).2.2 ∧ gC l G d MX2_coins [.ref 6] h1 (rI fun v2 h2 => h2.2.2 = (h1).2.2 ∧ gC l G d MX11_draw [.ref 0, .int (v1 / 256)] (sI h2 0 12 0) (rV fun h3 => h3.2.2 = ((sI h2 0 12 0)).2.2 ∧ gC l G d MX11_draw [.ref 0, .int (v1 - v1 / 256 * 256)] h3 (rV fun h4 => h4.2.2 = (h3).2.2 ∧ gC l G d MX11_draw [.ref 0, .int (v2 / 65536)] h4 (rV fun h5 => h5.2.2 = (h4).2.2 ∧ gC l G d MX11_draw [.ref 0, .int ((v2 / 256) - (v2 / 256) / 256 * 256)] h5 (rV fun h6 => h6.2.2 = (h5).2.2 ∧ gC l G d MX11_draw [.ref 0, .int (v2 - v2 / 256 * 256)] h6 (rV fun h7 => h7.2.2 = (h6).2.2 ∧ gg p l e s m args below meth c G (d + 1) MX11_image Q 72 [some (.ref 0), some (.int v1), some (.int v2), some (.int 0)] [] h7)))))))) : gg p l e s m args below meth c G (d + 1) MX11_image Q 0 [some (.ref 0), none, none, none] [] h := by
  refine go_aload_n (x := 0) dX11_image_0 rfl ?_
  refine go_getR (x := 6) dX11_image_1 f11_37 sh0 (fun _ _ => rfl) (rf0_3 hR) ?_
  refine gvI0 MX2_hour dX11_image_4 lX11_148 kX2_hour vX2_hour sh6 (by decide) rfl (Nat.le_of_ble_eq_true rfl) vc ?_
  intro v1 h1 vc
  obtain ⟨hR1, vc⟩ := vc
  replace hR := hR1.trans hR
  refine go_istore_n dX11_image_7 (Nat.le_of_ble_eq_true rfl) ?_
  show gg p l e s m args below meth c G (d + 1) MX11_image Q 8 [some (.ref 0), some (.int v1), none, none] [] h1
  refine go_aload_n (x := 0) dX11_image_8 rfl ?_
  refine go_getR (x := 6) dX11_image_9 f11_37 sh0 (fun _ _ => rfl) (rf0_3 hR) ?_
  refine gvI0 MX2_coins dX11_image_12 lX11_155 kX2_coins vX2_coins sh6 (by decide) rfl (Nat.le_of_ble_eq_true rfl) vc ?_
  intro v2 h2 vc
  obtain ⟨hR2, vc⟩ := vc
  replace hR := hR2.trans hR
  refine go_istore_n dX11_image_15 (Nat.le_of_ble_eq_true rfl) ?_
  show gg p l e s m args below meth c G (d + 1) MX11_image Q 16 [some (.ref 0), some (.int v1), some (.int v2), none] [] h2
  refine go_aload_n (x := 0) dX11_image_16 rfl ?_
  refine go_iconst (v := 0) dX11_image_17 rfl ?_
  refine go_putI dX11_image_18 f11_94 sh0 rfl rfl ?_
  refine go_aload_n (x := 0) dX11_image_21 rfl ?_
  refine go_iload_n (x := v1) dX11_image_22 rfl ?_
  refine go_sipush (v := 256) dX11_image_23 rfl ?_
  refine go_idiv dX11_image_26 (by decide) ?_
  refine gvV1 MX11_draw dX11_image_27 lX11_363 kX11_draw vX11_draw sh0 (by decide) rfl (Nat.le_of_ble_eq_true rfl) vc ?_
  intro h3 vc
  obtain ⟨hR3, vc⟩ := vc
  replace hR := hR3.trans hR
  refine go_aload_n (x := 0) dX11_image_30 rfl ?_
  refine go_iload_n (x := v1) dX11_image_31 rfl ?_
  refine go_sipush (v := 256) dX11_image_32 rfl ?_
  refine go_irem dX11_image_35 (by decide) ?_
  refine gvV1 MX11_draw dX11_image_36 lX11_363 kX11_draw vX11_draw sh0 (by decide) rfl (Nat.le_of_ble_eq_true rfl) vc ?_
  intro h4 vc
  obtain ⟨hR4, vc⟩ := vc
  replace hR := hR4.trans hR
  refine go_aload_n (x := 0) dX11_image_39 rfl ?_
  refine go_iload_n (x := v2) dX11_image_40 rfl ?_
  refine go_ldcw (v := 65536) dX11_image_41 nX11_366 ?_
  refine go_idiv dX11_image_44 (by decide) ?_
  refine gvV1 MX11_draw dX11_image_45 lX11_363 kX11_draw vX11_draw sh0 (by decide) rfl (Nat.le_of_ble_eq_true rfl) vc ?_
  intro h5 vc
  obtain ⟨hR5, vc⟩ := vc
  replace hR := hR5.trans hR
  refine go_aload_n (x := 0) dX11_image_48 rfl ?_
  refine go_iload_n (x := v2) dX11_image_49 rfl ?_
  refine go_sipush (v := 256) dX11_image_50 rfl ?_
  refine go_idiv dX11_image_53 (by decide) ?_
  refine go_sipush (v := 256) dX11_image_54 rfl ?_
  refine go_irem dX11_image_57 (by decide) ?_
  refine gvV1 MX11_draw dX11_image_58 lX11_363 kX11_draw vX11_draw sh0 (by decide) rfl (Nat.le_of_ble_eq_true rfl) vc ?_
  intro h6 vc
  obtain ⟨hR6, vc⟩ := vc
  replace hR := hR6.trans hR
  refine go_aload_n (x := 0) dX11_image_61 rfl ?_
  refine go_iload_n (x := v2) dX11_image_62 rfl ?_
  refine go_sipush (v := 256) dX11_image_63 rfl ?_
  refine go_irem dX11_image_66 (by decide) ?_
  refine gvV1 MX11_draw dX11_image_67 lX11_363 kX11_draw vX11_draw sh0 (by decide) rfl (Nat.le_of_ble_eq_true rfl) vc ?_
  intro h7 vc
  obtain ⟨hR7, vc⟩ := vc
  replace hR := hR7.trans hR
  refine go_iconst (v := 0) dX11_image_70 rfl ?_
  refine go_istore_n dX11_image_71 (Nat.le_of_ble_eq_true rfl) ?_
  show gg p l e s m args below meth c G (d + 1) MX11_image Q 72 [some (.ref 0), some (.int v1), some (.int v2), some (.int 0)] [] h7
  exact vc
set_option maxRecDepth 20000 in
theorem wX11_image_72 {p : Program} {l : Launch} {e : Env} {s : State} {m : MethodId} {args : Array Value} {below : List Frame} {meth : Method} {c : Code} {G : gG} {d : Nat} {Q : Option Value → gH → Prop} {h : gH} {lk sp : Nat} {cd : Option Nat} {x1 : Int32} {x2 : Int32} {x3 : Int32} (hR : h.2.2 = gRF lk sp cd) (hlk : lk = 30 ∨ lk = 67) (hsp : sp = 30 ∨ sp = 67)  (vc : (((h.1 lk 13) ≤ x3 → gC l G d MX11_sealOf [.ref 65, .int (h.1 0 12)] h (rI fun v1 h1 => h1.2.2 = (h).2.2 ∧ gC l G d MX11_draw [.ref 0, .int v1] h1 (rV fun h2 => h2.2.2 = (h1).2.2 ∧ Q (some (.int (h2.1 0 12))) h2))) ∧ (¬ (h.1 lk 13) ≤ x3 → gC l G d MX2_cellOf [.ref 6, .int x3] h (rI fun v3 h3 => h3.2.2 = (h).2.2 ∧ gC l G d MX11_draw [.ref 0, .int v3] h3 (rV fun h4 => h4.2.2 = (h3).2.2 ∧ gC l G d MX2_trustOf [.ref 6, .int x3] h4 (rI fun v5 h5 => h5.2.2 = (h4).2.2 ∧ gC l G d MX11_draw [.ref 0, .int v5] h5 (rV fun h6 => h6.2.2 = (h5).2.2 ∧ gC l G d MX2_balksOf [.ref 6, .int x3] h6 (rI fun v7 h7 => h7.2.2 = (h6).2.2 ∧ gC l G d MX11_draw [.ref 0, .int v7] h7 (rV fun h8 => h8.2.2 = (h7).2.2 ∧ gC l G d MX2_handOf [.ref 6, .int x3] h8 (rI fun v9 h9 => h9.2.2 = (h8).2.2 ∧ gC l G d MX11_draw [.ref 0, .int (v9 + 1)] h9 (rV fun h10 => h10.2.2 = (h9).2.2 ∧ gg p l e s m args below meth c G (d + 1) MX11_image Q 72 [some (.ref 0), some (.int x1), some (.int x2), some (.int (x3 + 1))] [] h10))))))))))) : gg p l e s m args below meth c G (d + 1) MX11_image Q 72 [some (.ref 0), some (.int x1), some (.int x2), some (.int x3)] [] h := by
  refine go_iload_n (x := x3) dX11_image_72 rfl ?_
  refine go_aload_n (x := 0) dX11_image_73 rfl ?_
  refine go_getR (x := 29) dX11_image_74 f11_49 sh0 (fun _ _ => rfl) (rf0_4 hR) ?_
  refine go_getR (x := lk) dX11_image_77 f11_117 sh29 (fun _ _ => rfl) (rf29_2 hR) ?_
  refine go_getI' (v := (h.1 lk 13)) dX11_image_80 f11_142 (slx hlk) (fun _ _ => rfl) rfl ?_
  refine go_icmp_ge 142 dX11_image_83 rfl (fun q => ?_) (fun q => ?_)
  · replace vc := vc.1 q
    refine go_aload_n (x := 0) dX11_image_142 rfl ?_
    refine go_aload_n (x := 0) dX11_image_143 rfl ?_
    refine go_getR (x := 65) dX11_image_144 f11_83 sh0 (fun _ _ => rfl) (rf0_9 hR) ?_
    refine go_aload_n (x := 0) dX11_image_147 rfl ?_
    refine go_getI' (v := (h.1 0 12)) dX11_image_148 f11_94 sh0 (fun _ _ => rfl) rfl ?_
    refine gsI2 MX11_sealOf dX11_image_151 lX11_367 kX11_sealOf sX11_sealOf (Nat.le_of_ble_eq_true rfl) vc ?_
    intro v1 h1 vc
    obtain ⟨hR1, vc⟩ := vc
    replace hR := hR1.trans hR
    refine gvV1 MX11_draw dX11_image_154 lX11_363 kX11_draw vX11_draw sh0 (by decide) rfl (Nat.le_of_ble_eq_true rfl) vc ?_
    intro h2 vc
    obtain ⟨hR2, vc⟩ := vc
    replace hR := hR2.trans hR
    refine go_aload_n (x := 0) dX11_image_157 rfl ?_
    refine go_getI' (v := (h2.1 0 12)) dX11_image_158 f11_94 sh0 (fun _ _ => rfl) rfl ?_
    exact go_iret dX11_image_161 rfl vc rfl (Nat.le_refl _) (Nat.le_refl _)
  · replace vc := vc.2 q
    refine go_aload_n (x := 0) dX11_image_86 rfl ?_
    refine go_aload_n (x := 0) dX11_image_87 rfl ?_
    refine go_getR (x := 6) dX11_image_88 f11_37 sh0 (fun _ _ => rfl) (rf0_3 hR) ?_
    refine go_iload_n (x := x3) dX11_image_91 rfl ?_
    refine gvI1 MX2_cellOf dX11_image_92 lX11_187 kX2_cellOf vX2_cellOf sh6 (by decide) rfl (Nat.le_of_ble_eq_true rfl) vc ?_
    intro v3 h3 vc
    obtain ⟨hR3, vc⟩ := vc
    replace hR := hR3.trans hR
    refine gvV1 MX11_draw dX11_image_95 lX11_363 kX11_draw vX11_draw sh0 (by decide) rfl (Nat.le_of_ble_eq_true rfl) vc ?_
    intro h4 vc
    obtain ⟨hR4, vc⟩ := vc
    replace hR := hR4.trans hR
    refine go_aload_n (x := 0) dX11_image_98 rfl ?_
    refine go_aload_n (x := 0) dX11_image_99 rfl ?_
    refine go_getR (x := 6) dX11_image_100 f11_37 sh0 (fun _ _ => rfl) (rf0_3 hR) ?_
    refine go_iload_n (x := x3) dX11_image_103 rfl ?_
    refine gvI1 MX2_trustOf dX11_image_104 lX11_190 kX2_trustOf vX2_trustOf sh6 (by decide) rfl (Nat.le_of_ble_eq_true rfl) vc ?_
    intro v5 h5 vc
    obtain ⟨hR5, vc⟩ := vc
    replace hR := hR5.trans hR
    refine gvV1 MX11_draw dX11_image_107 lX11_363 kX11_draw vX11_draw sh0 (by decide) rfl (Nat.le_of_ble_eq_true rfl) vc ?_
    intro h6 vc
    obtain ⟨hR6, vc⟩ := vc
    replace hR := hR6.trans hR
    refine go_aload_n (x := 0) dX11_image_110 rfl ?_
    refine go_aload_n (x := 0) dX11_image_111 rfl ?_
    refine go_getR (x := 6) dX11_image_112 f11_37 sh0 (fun _ _ => rfl) (rf0_3 hR) ?_
    refine go_iload_n (x := x3) dX11_image_115 rfl ?_
    refine gvI1 MX2_balksOf dX11_image_116 lX11_193 kX2_balksOf vX2_balksOf sh6 (by decide) rfl (Nat.le_of_ble_eq_true rfl) vc ?_
    intro v7 h7 vc
    obtain ⟨hR7, vc⟩ := vc
    replace hR := hR7.trans hR
    refine gvV1 MX11_draw dX11_image_119 lX11_363 kX11_draw vX11_draw sh0 (by decide) rfl (Nat.le_of_ble_eq_true rfl) vc ?_
    intro h8 vc
    obtain ⟨hR8, vc⟩ := vc
    replace hR := hR8.trans hR
    refine go_aload_n (x := 0) dX11_image_122 rfl ?_
    refine go_aload_n (x := 0) dX11_image_123 rfl ?_
    refine go_getR (x := 6) dX11_image_124 f11_37 sh0 (fun _ _ => rfl) (rf0_3 hR) ?_
    refine go_iload_n (x := x3) dX11_image_127 rfl ?_
    refine gvI1 MX2_handOf dX11_image_128 lX11_196 kX2_handOf vX2_handOf sh6 (by decide) rfl (Nat.le_of_ble_eq_true rfl) vc ?_
    intro v9 h9 vc
    obtain ⟨hR9, vc⟩ := vc
    replace hR := hR9.trans hR
    refine go_iconst (v := 1) dX11_image_131 rfl ?_
    refine go_iadd dX11_image_132 ?_
    refine gvV1 MX11_draw dX11_image_133 lX11_363 kX11_draw vX11_draw sh0 (by decide) rfl (Nat.le_of_ble_eq_true rfl) vc ?_
    intro h10 vc
    obtain ⟨hR10, vc⟩ := vc
    replace hR := hR10.trans hR
    refine go_iinc (x := x3) dX11_image_136 rfl ?_
    show gg p l e s m args below meth c G (d + 1) MX11_image Q 139 [some (.ref 0), some (.int x1), some (.int x2), some (.int (x3 + 1))] [] h10
    refine go_goto 72 dX11_image_139 rfl ?_
    exact vc
set_option maxRecDepth 20000 in
theorem wX11_octet_0 {p : Program} {l : Launch} {e : Env} {s : State} {m : MethodId} {args : Array Value} {below : List Frame} {meth : Method} {c : Code} {G : gG} {d : Nat} {Q : Option Value → gH → Prop} {h : gH} {lk sp : Nat} {cd : Option Nat} {a1 : Int32} (hR : h.2.2 = gRF lk sp cd) (hlk : lk = 30 ∨ lk = 67) (hsp : sp = 30 ∨ sp = 67)  (vc : ((a1 < 0 → Q (some (.int (-1))) h) ∧ (¬ a1 < 0 → (((h.1 0 12) ≤ a1 → Q (some (.int (-1))) h) ∧ (¬ (h.1 0 12) ≤ a1 → ((30 ≤ a1 → Q (some (.int (-1))) h) ∧ (¬ 30 ≤ a1 → (vp_in a1 30 ∧ Q (some (.int (h.1 65 a1.toNatClampNeg))) h)))))))) : gg p l e s m args below meth c G d MX11_octet Q 0 [some (.ref 0), some (.int a1)] [] h := by
  refine go_iload_n (x := a1) dX11_octet_0 rfl ?_
  refine go_if_lt 30 dX11_octet_1 rfl (fun q => ?_) (fun q => ?_)
  · replace vc := vc.1 q
    refine go_iconst (v := (-1)) dX11_octet_30 rfl ?_
    exact go_iret dX11_octet_31 rfl vc rfl (Nat.le_refl _) (Nat.le_refl _)
  · replace vc := vc.2 q
    refine go_iload_n (x := a1) dX11_octet_4 rfl ?_
    refine go_aload_n (x := 0) dX11_octet_5 rfl ?_
    refine go_getI' (v := (h.1 0 12)) dX11_octet_6 f11_94 sh0 (fun _ _ => rfl) rfl ?_
    refine go_icmp_ge 30 dX11_octet_9 rfl (fun q => ?_) (fun q => ?_)
    · replace vc := vc.1 q
      refine go_iconst (v := (-1)) dX11_octet_30 rfl ?_
      exact go_iret dX11_octet_31 rfl vc rfl (Nat.le_refl _) (Nat.le_refl _)
    · replace vc := vc.2 q
      refine go_iload_n (x := a1) dX11_octet_12 rfl ?_
      refine go_aload_n (x := 0) dX11_octet_13 rfl ?_
      refine go_getR (x := 65) dX11_octet_14 f11_83 sh0 (fun _ _ => rfl) (rf0_9 hR) ?_
      refine go_alen (v := 30) dX11_octet_17 sh65 (by decide) rfl ?_
      refine go_icmp_ge 30 dX11_octet_18 rfl (fun q => ?_) (fun q => ?_)
      · replace vc := vc.1 q
        refine go_iconst (v := (-1)) dX11_octet_30 rfl ?_
        exact go_iret dX11_octet_31 rfl vc rfl (Nat.le_refl _) (Nat.le_refl _)
      · replace vc := vc.2 q
        refine go_aload_n (x := 0) dX11_octet_21 rfl ?_
        refine go_getR (x := 65) dX11_octet_22 f11_83 sh0 (fun _ _ => rfl) (rf0_9 hR) ?_
        refine go_iload_n (x := a1) dX11_octet_25 rfl ?_
        refine go_iald' (v := (h.1 65 a1.toNatClampNeg)) dX11_octet_26 sh65 vc.1 rfl ?_
        have vc := vc.2
        refine go_goto 31 dX11_octet_27 rfl ?_
        exact go_iret dX11_octet_31 rfl vc rfl (Nat.le_refl _) (Nat.le_refl _)
set_option maxRecDepth 20000 in
theorem wX11_on_0 {p : Program} {l : Launch} {e : Env} {s : State} {m : MethodId} {args : Array Value} {below : List Frame} {meth : Method} {c : Code} {G : gG} {d : Nat} {Q : Option Value → gH → Prop} {h : gH} {lk sp : Nat} {cd : Option Nat}  (hR : h.2.2 = gRF lk sp cd) (hlk : lk = 30 ∨ lk = 67) (hsp : sp = 30 ∨ sp = 67)  (vc : gC l G d MX4_isNone [.ref lk] (sI h 1 2 0) (rI fun v1 h1 => h1.2.2 = ((sI h 1 2 0)).2.2 ∧ ((¬ v1 = 0 → gC l G d MX11_refuse [.ref 0, .int 5] h1 (rI fun v2 h2 => h2.2.2 = (h1).2.2 ∧ Q (some (.int 0)) h2)) ∧ (v1 = 0 → gC l G d MX11_isImage [.ref 0, .ref 2, .int (h.1 1 2)] h1 (rI fun v3 h3 => h3.2.2 = (h1).2.2 ∧ ((¬ v3 = 0 → gC l G d MX2_forget [.ref 6] h3 (rV fun h4 => h4.2.2 = (h3).2.2 ∧ gC l G d MX2_take [.ref 6, .ref 2] h4 (rV fun h5 => h5.2.2 = (h4).2.2 ∧ Q (some (.int 1)) h5))) ∧ (v3 = 0 → gC l G d MX11_refuse [.ref 0, .int 5] h3 (rI fun v6 h6 => h6.2.2 = (h3).2.2 ∧ Q (some (.int 0)) h6)))))))) : gg p l e s m args below meth c G (d + 1) MX11_on Q 0 [some (.ref 0), none] [] h := by
  refine go_aload_n (x := 0) dX11_on_0 rfl ?_
  refine go_getR (x := 1) dX11_on_1 f11_12 sh0 (fun _ _ => rfl) (rf0_0 hR) ?_
  refine go_getI' (v := (h.1 1 2)) dX11_on_4 f11_102 sh1 (fun _ _ => rfl) rfl ?_
  refine go_istore_n dX11_on_7 (Nat.le_of_ble_eq_true rfl) ?_
  show gg p l e s m args below meth c G (d + 1) MX11_on Q 8 [some (.ref 0), some (.int (h.1 1 2))] [] h
  refine go_aload_n (x := 0) dX11_on_8 rfl ?_
  refine go_getR (x := 1) dX11_on_9 f11_12 sh0 (fun _ _ => rfl) (rf0_0 hR) ?_
  refine go_iconst (v := 0) dX11_on_12 rfl ?_
  refine go_putI dX11_on_13 f11_102 sh1 rfl rfl ?_
  refine go_aload_n (x := 0) dX11_on_16 rfl ?_
  refine go_getR (x := 29) dX11_on_17 f11_49 sh0 (fun _ _ => rfl) (rf0_4 hR) ?_
  refine go_getR (x := lk) dX11_on_20 f11_117 sh29 (fun _ _ => rfl) (rf29_2 hR) ?_
  refine gvI0 MX4_isNone dX11_on_23 lX11_371 kX4_isNone vX4_isNone (slx hlk) (by decide) rfl (Nat.le_of_ble_eq_true rfl) vc ?_
  intro v1 h1 vc
  obtain ⟨hR1, vc⟩ := vc
  replace hR := hR1.trans hR
  refine go_if_ne 44 dX11_on_26 rfl (fun q => ?_) (fun q => ?_)
  · replace vc := vc.1 q
    refine go_aload_n (x := 0) dX11_on_44 rfl ?_
    refine go_iconst (v := 5) dX11_on_45 rfl ?_
    refine gvI1 MX11_refuse dX11_on_46 lX11_105 kX11_refuse vX11_refuse sh0 (by decide) rfl (Nat.le_of_ble_eq_true rfl) vc ?_
    intro v2 h2 vc
    obtain ⟨hR2, vc⟩ := vc
    replace hR := hR2.trans hR
    refine go_pop dX11_on_49 rfl ?_
    refine go_iconst (v := 0) dX11_on_50 rfl ?_
    exact go_zret dX11_on_51 rfl (by decide) vc rfl (Nat.le_refl _) (Nat.le_refl _)
  · replace vc := vc.2 q
    refine go_aload_n (x := 0) dX11_on_29 rfl ?_
    refine go_aload_n (x := 0) dX11_on_30 rfl ?_
    refine go_getR (x := 1) dX11_on_31 f11_12 sh0 (fun _ _ => rfl) (rf0_0 hR) ?_
    refine go_getR (x := 2) dX11_on_34 f11_281 sh1 (fun _ _ => rfl) (rf1_0 hR) ?_
    refine go_iload_n (x := (h.1 1 2)) dX11_on_37 rfl ?_
    refine gvI2 MX11_isImage dX11_on_38 lX11_374 kX11_isImage vX11_isImage sh0 (by decide) rfl (Nat.le_of_ble_eq_true rfl) vc ?_
    intro v3 h3 vc
    obtain ⟨hR3, vc⟩ := vc
    replace hR := hR3.trans hR
    refine go_if_ne 52 dX11_on_41 rfl (fun q => ?_) (fun q => ?_)
    · replace vc := vc.1 q
      refine go_aload_n (x := 0) dX11_on_52 rfl ?_
      refine go_getR (x := 6) dX11_on_53 f11_37 sh0 (fun _ _ => rfl) (rf0_3 hR) ?_
      refine gvV0 MX2_forget dX11_on_56 lX11_378 kX2_forget vX2_forget sh6 (by decide) rfl (Nat.le_of_ble_eq_true rfl) vc ?_
      intro h4 vc
      obtain ⟨hR4, vc⟩ := vc
      replace hR := hR4.trans hR
      refine go_aload_n (x := 0) dX11_on_59 rfl ?_
      refine go_getR (x := 6) dX11_on_60 f11_37 sh0 (fun _ _ => rfl) (rf0_3 hR) ?_
      refine go_aload_n (x := 0) dX11_on_63 rfl ?_
      refine go_getR (x := 1) dX11_on_64 f11_12 sh0 (fun _ _ => rfl) (rf0_0 hR) ?_
      refine go_getR (x := 2) dX11_on_67 f11_281 sh1 (fun _ _ => rfl) (rf1_0 hR) ?_
      refine gvV1 MX2_take dX11_on_70 lX11_381 kX2_take vX2_take sh6 (by decide) rfl (Nat.le_of_ble_eq_true rfl) vc ?_
      intro h5 vc
      obtain ⟨hR5, vc⟩ := vc
      replace hR := hR5.trans hR
      refine go_iconst (v := 1) dX11_on_73 rfl ?_
      exact go_zret dX11_on_74 rfl (by decide) vc rfl (Nat.le_refl _) (Nat.le_refl _)
    · replace vc := vc.2 q
      refine go_aload_n (x := 0) dX11_on_44 rfl ?_
      refine go_iconst (v := 5) dX11_on_45 rfl ?_
      refine gvI1 MX11_refuse dX11_on_46 lX11_105 kX11_refuse vX11_refuse sh0 (by decide) rfl (Nat.le_of_ble_eq_true rfl) vc ?_
      intro v6 h6 vc
      obtain ⟨hR6, vc⟩ := vc
      replace hR := hR6.trans hR
      refine go_pop dX11_on_49 rfl ?_
      refine go_iconst (v := 0) dX11_on_50 rfl ?_
      exact go_zret dX11_on_51 rfl (by decide) vc rfl (Nat.le_refl _) (Nat.le_refl _)
set_option maxRecDepth 20000 in
theorem wX11_status_0 {p : Program} {l : Launch} {e : Env} {s : State} {m : MethodId} {args : Array Value} {below : List Frame} {meth : Method} {c : Code} {G : gG} {d : Nat} {Q : Option Value → gH → Prop} {h : gH} {lk sp : Nat} {cd : Option Nat} {a1 : Int32} (hR : h.2.2 = gRF lk sp cd) (hlk : lk = 30 ∨ lk = 67) (hsp : sp = 30 ∨ sp = 67)  (vc : ((a1 < 0 → Q (some (.int (-1))) h) ∧ (¬ a1 < 0 → ((6 ≤ a1 → Q (some (.int (-1))) h) ∧ (¬ 6 ≤ a1 → (vp_in a1 6 ∧ Q (some (.int (h.1 66 a1.toNatClampNeg))) h)))))) : gg p l e s m args below meth c G d MX11_status Q 0 [some (.ref 0), some (.int a1)] [] h := by
  refine go_iload_n (x := a1) dX11_status_0 rfl ?_
  refine go_if_lt 19 dX11_status_1 rfl (fun q => ?_) (fun q => ?_)
  · replace vc := vc.1 q
    refine go_iconst (v := (-1)) dX11_status_19 rfl ?_
    exact go_iret dX11_status_20 rfl vc rfl (Nat.le_refl _) (Nat.le_refl _)
  · replace vc := vc.2 q
    refine go_iload_n (x := a1) dX11_status_4 rfl ?_
    refine go_bipush (v := 6) dX11_status_5 rfl ?_
    refine go_icmp_ge 19 dX11_status_7 rfl (fun q => ?_) (fun q => ?_)
    · replace vc := vc.1 q
      refine go_iconst (v := (-1)) dX11_status_19 rfl ?_
      exact go_iret dX11_status_20 rfl vc rfl (Nat.le_refl _) (Nat.le_refl _)
    · replace vc := vc.2 q
      refine go_aload_n (x := 0) dX11_status_10 rfl ?_
      refine go_getR (x := 66) dX11_status_11 f11_87 sh0 (fun _ _ => rfl) (rf0_10 hR) ?_
      refine go_iload_n (x := a1) dX11_status_14 rfl ?_
      refine go_iald' (v := (h.1 66 a1.toNatClampNeg)) dX11_status_15 sh66 vc.1 rfl ?_
      have vc := vc.2
      refine go_goto 20 dX11_status_16 rfl ?_
      exact go_iret dX11_status_20 rfl vc rfl (Nat.le_refl _) (Nat.le_refl _)
set_option maxRecDepth 20000 in
theorem wX11_refuse_0 {p : Program} {l : Launch} {e : Env} {s : State} {m : MethodId} {args : Array Value} {below : List Frame} {meth : Method} {c : Code} {G : gG} {d : Nat} {Q : Option Value → gH → Prop} {h : gH} {lk sp : Nat} {cd : Option Nat} {a1 : Int32} (hR : h.2.2 = gRF lk sp cd) (hlk : lk = 30 ∨ lk = 67) (hsp : sp = 30 ∨ sp = 67)  (vc : ((a1 < 0 → Q (some (.int (-1))) h) ∧ (¬ a1 < 0 → ((6 ≤ a1 → Q (some (.int (-1))) h) ∧ (¬ 6 ≤ a1 → (vp_in a1 6 ∧ (vp_in a1 6 ∧ Q (some (.int (-1))) (sI h 66 a1.toNatClampNeg ((h.1 66 a1.toNatClampNeg) + 1))))))))) : gg p l e s m args below meth c G d MX11_refuse Q 0 [some (.ref 0), some (.int a1)] [] h := by
  refine go_iload_n (x := a1) dX11_refuse_0 rfl ?_
  refine go_if_lt 20 dX11_refuse_1 rfl (fun q => ?_) (fun q => ?_)
  · replace vc := vc.1 q
    refine go_iconst (v := (-1)) dX11_refuse_20 rfl ?_
    exact go_iret dX11_refuse_21 rfl vc rfl (Nat.le_refl _) (Nat.le_refl _)
  · replace vc := vc.2 q
    refine go_iload_n (x := a1) dX11_refuse_4 rfl ?_
    refine go_bipush (v := 6) dX11_refuse_5 rfl ?_
    refine go_icmp_ge 20 dX11_refuse_7 rfl (fun q => ?_) (fun q => ?_)
    · replace vc := vc.1 q
      refine go_iconst (v := (-1)) dX11_refuse_20 rfl ?_
      exact go_iret dX11_refuse_21 rfl vc rfl (Nat.le_refl _) (Nat.le_refl _)
    · replace vc := vc.2 q
      refine go_aload_n (x := 0) dX11_refuse_10 rfl ?_
      refine go_getR (x := 66) dX11_refuse_11 f11_87 sh0 (fun _ _ => rfl) (rf0_10 hR) ?_
      refine go_iload_n (x := a1) dX11_refuse_14 rfl ?_
      refine go_dup2 dX11_refuse_15 rfl rfl ?_
      refine go_iald' (v := (h.1 66 a1.toNatClampNeg)) dX11_refuse_16 sh66 vc.1 rfl ?_
      have vc := vc.2
      refine go_iconst (v := 1) dX11_refuse_17 rfl ?_
      refine go_iadd dX11_refuse_18 ?_
      refine go_iast dX11_refuse_19 sh66 vc.1 ?_
      have vc := vc.2
      show gg p l e s m args below meth c G d MX11_refuse Q 20 [some (.ref 0), some (.int a1)] [] (sI h 66 a1.toNatClampNeg ((h.1 66 a1.toNatClampNeg) + 1))
      refine go_iconst (v := (-1)) dX11_refuse_20 rfl ?_
      exact go_iret dX11_refuse_21 rfl vc rfl (Nat.le_refl _) (Nat.le_refl _)
set_option maxRecDepth 20000 in
theorem wX11_letterOf_0 {p : Program} {l : Launch} {e : Env} {s : State} {m : MethodId} {args : Array Value} {below : List Frame} {meth : Method} {c : Code} {G : gG} {d : Nat} {Q : Option Value → gH → Prop} {h : gH} {lk sp : Nat} {cd : Option Nat} {a1 : Int32} {a2 : Int32} (hR : h.2.2 = gRF lk sp cd) (hlk : lk = 30 ∨ lk = 67) (hsp : sp = 30 ∨ sp = 67)  (vc : Q (some (.int ((a1 >>> ((5 * (5 - a2)) &&& 31)) &&& 31))) h) : gg p l e s m args below meth c G d MX11_letterOf Q 0 [some (.int a1), some (.int a2)] [] h := by
  refine go_iload_n (x := a1) dX11_letterOf_0 rfl ?_
  refine go_iconst (v := 5) dX11_letterOf_1 rfl ?_
  refine go_iconst (v := 5) dX11_letterOf_2 rfl ?_
  refine go_iload_n (x := a2) dX11_letterOf_3 rfl ?_
  refine go_isub dX11_letterOf_4 ?_
  refine go_imul dX11_letterOf_5 ?_
  refine go_ishr dX11_letterOf_6 ?_
  refine go_bipush (v := 31) dX11_letterOf_7 rfl ?_
  refine go_iand dX11_letterOf_9 ?_
  exact go_iret dX11_letterOf_10 rfl vc rfl (Nat.le_refl _) (Nat.le_refl _)
set_option maxRecDepth 20000 in
theorem wX11_bitsOfTape_0 {p : Program} {l : Launch} {e : Env} {s : State} {m : MethodId} {args : Array Value} {below : List Frame} {meth : Method} {c : Code} {G : gG} {d : Nat} {Q : Option Value → gH → Prop} {h : gH} {lk sp : Nat} {cd : Option Nat} {a1 : Int32} (hR : h.2.2 = gRF lk sp cd) (hlk : lk = 30 ∨ lk = 67) (hsp : sp = 30 ∨ sp = 67)  (vc : gg p l e s m args below meth c G (d + 1) MX11_bitsOfTape Q 4 [some (.ref 0), some (.int a1), some (.int 0), some (.int 0), none] [] h) : gg p l e s m args below meth c G (d + 1) MX11_bitsOfTape Q 0 [some (.ref 0), some (.int a1), none, none, none] [] h := by
  refine go_iconst (v := 0) dX11_bitsOfTape_0 rfl ?_
  refine go_istore_n dX11_bitsOfTape_1 (Nat.le_of_ble_eq_true rfl) ?_
  show gg p l e s m args below meth c G (d + 1) MX11_bitsOfTape Q 2 [some (.ref 0), some (.int a1), some (.int 0), none, none] [] h
  refine go_iconst (v := 0) dX11_bitsOfTape_2 rfl ?_
  refine go_istore_n dX11_bitsOfTape_3 (Nat.le_of_ble_eq_true rfl) ?_
  show gg p l e s m args below meth c G (d + 1) MX11_bitsOfTape Q 4 [some (.ref 0), some (.int a1), some (.int 0), some (.int 0), none] [] h
  exact vc
set_option maxRecDepth 20000 in
theorem wX11_bitsOfTape_4 {p : Program} {l : Launch} {e : Env} {s : State} {m : MethodId} {args : Array Value} {below : List Frame} {meth : Method} {c : Code} {G : gG} {d : Nat} {Q : Option Value → gH → Prop} {h : gH} {lk sp : Nat} {cd : Option Nat} {x1 : Int32} {x2 : Int32} {x3 : Int32} (hR : h.2.2 = gRF lk sp cd) (hlk : lk = 30 ∨ lk = 67) (hsp : sp = 30 ∨ sp = 67)  (vc : ((x1 ≤ x3 → Q (some (.int x2)) h) ∧ (¬ x1 ≤ x3 → ((1600 ≤ x3 → Q (some (.int x2)) h) ∧ (¬ 1600 ≤ x3 → (vp_in x3 1600 ∧ gC l G d MX4_isBoat [.ref lk, .int (h.1 2 x3.toNatClampNeg)] h (rI fun v1 h1 => h1.2.2 = (h).2.2 ∧ ((v1 = 0 → Q (some (.int 0)) h1) ∧ (¬ v1 = 0 → ((¬ ((x2 >>> ((h.1 2 x3.toNatClampNeg) &&& 31)) &&& 1) = 1 → gg p l e s m args below meth c G (d + 1) MX11_bitsOfTape Q 4 [some (.ref 0), some (.int x1), some (.int (x2 ||| (1 <<< ((h.1 2 x3.toNatClampNeg) &&& 31)))), some (.int (x3 + 1)), none] [] h1) ∧ (((x2 >>> ((h.1 2 x3.toNatClampNeg) &&& 31)) &&& 1) = 1 → Q (some (.int 0)) h1))))))))))) : gg p l e s m args below meth c G (d + 1) MX11_bitsOfTape Q 4 [some (.ref 0), some (.int x1), some (.int x2), some (.int x3), none] [] h := by
  refine go_iload_n (x := x3) dX11_bitsOfTape_4 rfl ?_
  refine go_iload_n (x := x1) dX11_bitsOfTape_5 rfl ?_
  refine go_icmp_ge 67 dX11_bitsOfTape_6 rfl (fun q => ?_) (fun q => ?_)
  · replace vc := vc.1 q
    refine go_iload_n (x := x2) dX11_bitsOfTape_67 rfl ?_
    exact go_iret dX11_bitsOfTape_68 rfl vc rfl (Nat.le_refl _) (Nat.le_refl _)
  · replace vc := vc.2 q
    refine go_iload_n (x := x3) dX11_bitsOfTape_9 rfl ?_
    refine go_sipush (v := 1600) dX11_bitsOfTape_10 rfl ?_
    refine go_icmp_ge 67 dX11_bitsOfTape_13 rfl (fun q => ?_) (fun q => ?_)
    · replace vc := vc.1 q
      refine go_iload_n (x := x2) dX11_bitsOfTape_67 rfl ?_
      exact go_iret dX11_bitsOfTape_68 rfl vc rfl (Nat.le_refl _) (Nat.le_refl _)
    · replace vc := vc.2 q
      refine go_aload_n (x := 0) dX11_bitsOfTape_16 rfl ?_
      refine go_getR (x := 1) dX11_bitsOfTape_17 f11_12 sh0 (fun _ _ => rfl) (rf0_0 hR) ?_
      refine go_getR (x := 2) dX11_bitsOfTape_20 f11_281 sh1 (fun _ _ => rfl) (rf1_0 hR) ?_
      refine go_iload_n (x := x3) dX11_bitsOfTape_23 rfl ?_
      refine go_iald' (v := (h.1 2 x3.toNatClampNeg)) dX11_bitsOfTape_24 sh2 vc.1 rfl ?_
      have vc := vc.2
      refine go_istore dX11_bitsOfTape_25 (Nat.le_of_ble_eq_true rfl) ?_
      show gg p l e s m args below meth c G (d + 1) MX11_bitsOfTape Q 27 [some (.ref 0), some (.int x1), some (.int x2), some (.int x3), some (.int (h.1 2 x3.toNatClampNeg))] [] h
      refine go_aload_n (x := 0) dX11_bitsOfTape_27 rfl ?_
      refine go_getR (x := 29) dX11_bitsOfTape_28 f11_49 sh0 (fun _ _ => rfl) (rf0_4 hR) ?_
      refine go_getR (x := lk) dX11_bitsOfTape_31 f11_117 sh29 (fun _ _ => rfl) (rf29_2 hR) ?_
      refine go_iload (x := (h.1 2 x3.toNatClampNeg)) dX11_bitsOfTape_34 rfl ?_
      refine gvI1 MX4_isBoat dX11_bitsOfTape_36 lX11_170 kX4_isBoat vX4_isBoat (slx hlk) (by decide) rfl (Nat.le_of_ble_eq_true rfl) vc ?_
      intro v1 h1 vc
      obtain ⟨hR1, vc⟩ := vc
      replace hR := hR1.trans hR
      refine go_if_eq 52 dX11_bitsOfTape_39 rfl (fun q => ?_) (fun q => ?_)
      · replace vc := vc.1 q
        refine go_iconst (v := 0) dX11_bitsOfTape_52 rfl ?_
        exact go_iret dX11_bitsOfTape_53 rfl vc rfl (Nat.le_refl _) (Nat.le_refl _)
      · replace vc := vc.2 q
        refine go_iload_n (x := x2) dX11_bitsOfTape_42 rfl ?_
        refine go_iload (x := (h.1 2 x3.toNatClampNeg)) dX11_bitsOfTape_43 rfl ?_
        refine go_ishr dX11_bitsOfTape_45 ?_
        refine go_iconst (v := 1) dX11_bitsOfTape_46 rfl ?_
        refine go_iand dX11_bitsOfTape_47 ?_
        refine go_iconst (v := 1) dX11_bitsOfTape_48 rfl ?_
        refine go_icmp_ne 54 dX11_bitsOfTape_49 rfl (fun q => ?_) (fun q => ?_)
        · replace vc := vc.1 q
          refine go_iload_n (x := x2) dX11_bitsOfTape_54 rfl ?_
          refine go_iconst (v := 1) dX11_bitsOfTape_55 rfl ?_
          refine go_iload (x := (h.1 2 x3.toNatClampNeg)) dX11_bitsOfTape_56 rfl ?_
          refine go_ishl dX11_bitsOfTape_58 ?_
          refine go_ior dX11_bitsOfTape_59 ?_
          refine go_istore_n dX11_bitsOfTape_60 (Nat.le_of_ble_eq_true rfl) ?_
          show gg p l e s m args below meth c G (d + 1) MX11_bitsOfTape Q 61 [some (.ref 0), some (.int x1), some (.int (x2 ||| (1 <<< ((h.1 2 x3.toNatClampNeg) &&& 31)))), some (.int x3), some (.int (h.1 2 x3.toNatClampNeg))] [] h1
          refine go_iinc (x := x3) dX11_bitsOfTape_61 rfl ?_
          show gg p l e s m args below meth c G (d + 1) MX11_bitsOfTape Q 64 [some (.ref 0), some (.int x1), some (.int (x2 ||| (1 <<< ((h.1 2 x3.toNatClampNeg) &&& 31)))), some (.int (x3 + 1)), some (.int (h.1 2 x3.toNatClampNeg))] [] h1
          refine go_goto 4 dX11_bitsOfTape_64 rfl ?_
          refine go_weak (ls' := [some (.ref 0), some (.int x1), some (.int (x2 ||| (1 <<< ((h.1 2 x3.toNatClampNeg) &&& 31)))), some (.int (x3 + 1)), none]) ?_ vc
          exact (⟨rfl, ⟨rfl, ⟨rfl, ⟨rfl, trivial⟩⟩⟩⟩)
        · replace vc := vc.2 q
          refine go_iconst (v := 0) dX11_bitsOfTape_52 rfl ?_
          exact go_iret dX11_bitsOfTape_53 rfl vc rfl (Nat.le_refl _) (Nat.le_refl _)
set_option maxRecDepth 20000 in
theorem wX11_canPass_0 {p : Program} {l : Launch} {e : Env} {s : State} {m : MethodId} {args : Array Value} {below : List Frame} {meth : Method} {c : Code} {G : gG} {d : Nat} {Q : Option Value → gH → Prop} {h : gH} {lk sp : Nat} {cd : Option Nat} {a1 : Int32} {a2 : Int32} (hR : h.2.2 = gRF lk sp cd) (hlk : lk = 30 ∨ lk = 67) (hsp : sp = 30 ∨ sp = 67)  (vc : gC l G d MX4_isNone [.ref lk] h (rI fun v1 h1 => h1.2.2 = (h).2.2 ∧ ((¬ v1 = 0 → Q (some (.int 0)) h1) ∧ (v1 = 0 → ((a1 < 1 → Q (some (.int 0)) h1) ∧ (¬ a1 < 1 → ((a2 < a1 → Q (some (.int 0)) h1) ∧ (¬ a2 < a1 → gC l G d MX2_hour [.ref 6] h1 (rI fun v2 h2 => h2.2.2 = (h1).2.2 ∧ ((999 < (v2 + a1) → Q (some (.int 0)) h2) ∧ (¬ 999 < (v2 + a1) → Q (some (.int 1)) h2))))))))))) : gg p l e s m args below meth c G (d + 1) MX11_canPass Q 0 [some (.ref 0), some (.int a1), some (.int a2)] [] h := by
  refine go_aload_n (x := 0) dX11_canPass_0 rfl ?_
  refine go_getR (x := 29) dX11_canPass_1 f11_49 sh0 (fun _ _ => rfl) (rf0_4 hR) ?_
  refine go_getR (x := lk) dX11_canPass_4 f11_117 sh29 (fun _ _ => rfl) (rf29_2 hR) ?_
  refine gvI0 MX4_isNone dX11_canPass_7 lX11_371 kX4_isNone vX4_isNone (slx hlk) (by decide) rfl (Nat.le_of_ble_eq_true rfl) vc ?_
  intro v1 h1 vc
  obtain ⟨hR1, vc⟩ := vc
  replace hR := hR1.trans hR
  refine go_if_ne 42 dX11_canPass_10 rfl (fun q => ?_) (fun q => ?_)
  · replace vc := vc.1 q
    refine go_iconst (v := 0) dX11_canPass_42 rfl ?_
    exact go_zret dX11_canPass_43 rfl (by decide) vc rfl (Nat.le_refl _) (Nat.le_refl _)
  · replace vc := vc.2 q
    refine go_iload_n (x := a1) dX11_canPass_13 rfl ?_
    refine go_iconst (v := 1) dX11_canPass_14 rfl ?_
    refine go_icmp_lt 42 dX11_canPass_15 rfl (fun q => ?_) (fun q => ?_)
    · replace vc := vc.1 q
      refine go_iconst (v := 0) dX11_canPass_42 rfl ?_
      exact go_zret dX11_canPass_43 rfl (by decide) vc rfl (Nat.le_refl _) (Nat.le_refl _)
    · replace vc := vc.2 q
      refine go_iload_n (x := a1) dX11_canPass_18 rfl ?_
      refine go_iload_n (x := a2) dX11_canPass_19 rfl ?_
      refine go_icmp_gt 42 dX11_canPass_20 rfl (fun q => ?_) (fun q => ?_)
      · replace vc := vc.1 q
        refine go_iconst (v := 0) dX11_canPass_42 rfl ?_
        exact go_zret dX11_canPass_43 rfl (by decide) vc rfl (Nat.le_refl _) (Nat.le_refl _)
      · replace vc := vc.2 q
        refine go_aload_n (x := 0) dX11_canPass_23 rfl ?_
        refine go_getR (x := 6) dX11_canPass_24 f11_37 sh0 (fun _ _ => rfl) (rf0_3 hR) ?_
        refine gvI0 MX2_hour dX11_canPass_27 lX11_148 kX2_hour vX2_hour sh6 (by decide) rfl (Nat.le_of_ble_eq_true rfl) vc ?_
        intro v2 h2 vc
        obtain ⟨hR2, vc⟩ := vc
        replace hR := hR2.trans hR
        refine go_iload_n (x := a1) dX11_canPass_30 rfl ?_
        refine go_iadd dX11_canPass_31 ?_
        refine go_sipush (v := 999) dX11_canPass_32 rfl ?_
        refine go_icmp_gt 42 dX11_canPass_35 rfl (fun q => ?_) (fun q => ?_)
        · replace vc := vc.1 q
          refine go_iconst (v := 0) dX11_canPass_42 rfl ?_
          exact go_zret dX11_canPass_43 rfl (by decide) vc rfl (Nat.le_refl _) (Nat.le_refl _)
        · replace vc := vc.2 q
          refine go_iconst (v := 1) dX11_canPass_38 rfl ?_
          refine go_goto 43 dX11_canPass_39 rfl ?_
          exact go_zret dX11_canPass_43 rfl (by decide) vc rfl (Nat.le_refl _) (Nat.le_refl _)
set_option maxRecDepth 20000 in
theorem wX11_driftOnce_0 {p : Program} {l : Launch} {e : Env} {s : State} {m : MethodId} {args : Array Value} {below : List Frame} {meth : Method} {c : Code} {G : gG} {d : Nat} {Q : Option Value → gH → Prop} {h : gH} {lk sp : Nat} {cd : Option Nat} {a1 : Int32} (hR : h.2.2 = gRF lk sp cd) (hlk : lk = 30 ∨ lk = 67) (hsp : sp = 30 ∨ sp = 67)  (vc : gC l G d MX2_cellOf [.ref 6, .int a1] (sL h 0 13 (((1103515245 * (h.2.1 0 13)) + 12345) - ((1103515245 * (h.2.1 0 13)) + 12345) / 2147483648 * 2147483648)) (rI fun v1 h1 => h1.2.2 = ((sL h 0 13 (((1103515245 * (h.2.1 0 13)) + 12345) - ((1103515245 * (h.2.1 0 13)) + 12345) / 2147483648 * 2147483648))).2.2 ∧ gC l G d MX4_stepFrom [.ref lk, .int v1, .int ((((((1103515245 * (h.2.1 0 13)) + 12345) - ((1103515245 * (h.2.1 0 13)) + 12345) / 2147483648 * 2147483648) / 64) - ((((1103515245 * (h.2.1 0 13)) + 12345) - ((1103515245 * (h.2.1 0 13)) + 12345) / 2147483648 * 2147483648) / 64) / 4 * 4) : Int64).toInt32] h1 (rI fun v2 h2 => h2.2.2 = (h1).2.2 ∧ ((¬ v2 = (-1) → gC l G d MX9_attempt [.ref 29, .int a1, .int v2, .int (-1)] h2 (rI fun v3 h3 => h3.2.2 = (h2).2.2 ∧ Q (some (.int v3)) h3)) ∧ (v2 = (-1) → Q (some (.int 0)) h2))))) : gg p l e s m args below meth c G (d + 1) MX11_driftOnce Q 0 [some (.ref 0), some (.int a1), none, none] [] h := by
  refine go_aload_n (x := 0) dX11_driftOnce_0 rfl ?_
  refine go_ldc2 (v := 1103515245) dX11_driftOnce_1 nX11_385 ?_
  refine go_aload_n (x := 0) dX11_driftOnce_4 rfl ?_
  refine go_getL' (v := (h.2.1 0 13)) dX11_driftOnce_5 f11_98 sh0 (fun _ _ => rfl) rfl ?_
  refine go_lmul dX11_driftOnce_8 ?_
  refine go_ldc2 (v := 12345) dX11_driftOnce_9 nX11_387 ?_
  refine go_ladd dX11_driftOnce_12 ?_
  refine go_ldc2 (v := 2147483648) dX11_driftOnce_13 nX11_389 ?_
  refine go_lrem dX11_driftOnce_16 (by decide) ?_
  refine go_putL dX11_driftOnce_17 f11_98 sh0 rfl rfl ?_
  refine go_aload_n (x := 0) dX11_driftOnce_20 rfl ?_
  refine go_getL' (v := (((1103515245 * (h.2.1 0 13)) + 12345) - ((1103515245 * (h.2.1 0 13)) + 12345) / 2147483648 * 2147483648)) dX11_driftOnce_21 f11_98 sh0 (fun _ _ => rfl) rfl ?_
  refine go_ldc2 (v := 64) dX11_driftOnce_24 nX11_391 ?_
  refine go_ldiv dX11_driftOnce_27 (by decide) ?_
  refine go_ldc2 (v := 4) dX11_driftOnce_28 nX11_393 ?_
  refine go_lrem dX11_driftOnce_31 (by decide) ?_
  refine go_l2i dX11_driftOnce_32 ?_
  refine go_istore_n dX11_driftOnce_33 (Nat.le_of_ble_eq_true rfl) ?_
  show gg p l e s m args below meth c G (d + 1) MX11_driftOnce Q 34 [some (.ref 0), some (.int a1), some (.int ((((((1103515245 * (h.2.1 0 13)) + 12345) - ((1103515245 * (h.2.1 0 13)) + 12345) / 2147483648 * 2147483648) / 64) - ((((1103515245 * (h.2.1 0 13)) + 12345) - ((1103515245 * (h.2.1 0 13)) + 12345) / 2147483648 * 2147483648) / 64) / 4 * 4) : Int64).toInt32), none] [] (sL h 0 13 (((1103515245 * (h.2.1 0 13)) + 12345) - ((1103515245 * (h.2.1 0 13)) + 12345) / 2147483648 * 2147483648))
  refine go_aload_n (x := 0) dX11_driftOnce_34 rfl ?_
  refine go_getR (x := 29) dX11_driftOnce_35 f11_49 sh0 (fun _ _ => rfl) (rf0_4 hR) ?_
  refine go_getR (x := lk) dX11_driftOnce_38 f11_117 sh29 (fun _ _ => rfl) (rf29_2 hR) ?_
  refine go_aload_n (x := 0) dX11_driftOnce_41 rfl ?_
  refine go_getR (x := 6) dX11_driftOnce_42 f11_37 sh0 (fun _ _ => rfl) (rf0_3 hR) ?_
  refine go_iload_n (x := a1) dX11_driftOnce_45 rfl ?_
  refine gvI1 MX2_cellOf dX11_driftOnce_46 lX11_187 kX2_cellOf vX2_cellOf sh6 (by decide) rfl (Nat.le_of_ble_eq_true rfl) vc ?_
  intro v1 h1 vc
  obtain ⟨hR1, vc⟩ := vc
  replace hR := hR1.trans hR
  refine go_iload_n (x := ((((((1103515245 * (h.2.1 0 13)) + 12345) - ((1103515245 * (h.2.1 0 13)) + 12345) / 2147483648 * 2147483648) / 64) - ((((1103515245 * (h.2.1 0 13)) + 12345) - ((1103515245 * (h.2.1 0 13)) + 12345) / 2147483648 * 2147483648) / 64) / 4 * 4) : Int64).toInt32) dX11_driftOnce_49 rfl ?_
  refine gvI2 MX4_stepFrom dX11_driftOnce_50 lX11_395 kX4_stepFrom vX4_stepFrom (slx hlk) (by decide) rfl (Nat.le_of_ble_eq_true rfl) vc ?_
  intro v2 h2 vc
  obtain ⟨hR2, vc⟩ := vc
  replace hR := hR2.trans hR
  refine go_istore_n dX11_driftOnce_53 (Nat.le_of_ble_eq_true rfl) ?_
  show gg p l e s m args below meth c G (d + 1) MX11_driftOnce Q 54 [some (.ref 0), some (.int a1), some (.int ((((((1103515245 * (h.2.1 0 13)) + 12345) - ((1103515245 * (h.2.1 0 13)) + 12345) / 2147483648 * 2147483648) / 64) - ((((1103515245 * (h.2.1 0 13)) + 12345) - ((1103515245 * (h.2.1 0 13)) + 12345) / 2147483648 * 2147483648) / 64) / 4 * 4) : Int64).toInt32), some (.int v2)] [] h2
  refine go_iload_n (x := v2) dX11_driftOnce_54 rfl ?_
  refine go_iconst (v := (-1)) dX11_driftOnce_55 rfl ?_
  refine go_icmp_ne 63 dX11_driftOnce_56 rfl (fun q => ?_) (fun q => ?_)
  · replace vc := vc.1 q
    refine go_aload_n (x := 0) dX11_driftOnce_63 rfl ?_
    refine go_getR (x := 29) dX11_driftOnce_64 f11_49 sh0 (fun _ _ => rfl) (rf0_4 hR) ?_
    refine go_iload_n (x := a1) dX11_driftOnce_67 rfl ?_
    refine go_iload_n (x := v2) dX11_driftOnce_68 rfl ?_
    refine go_iconst (v := (-1)) dX11_driftOnce_69 rfl ?_
    refine gvI3 MX9_attempt dX11_driftOnce_70 lX11_309 kX9_attempt vX9_attempt sh29 (by decide) rfl (Nat.le_of_ble_eq_true rfl) vc ?_
    intro v3 h3 vc
    obtain ⟨hR3, vc⟩ := vc
    replace hR := hR3.trans hR
    exact go_iret dX11_driftOnce_73 rfl vc rfl (Nat.le_refl _) (Nat.le_refl _)
  · replace vc := vc.2 q
    refine go_iconst (v := 0) dX11_driftOnce_59 rfl ?_
    refine go_goto 73 dX11_driftOnce_60 rfl ?_
    exact go_iret dX11_driftOnce_73 rfl vc rfl (Nat.le_refl _) (Nat.le_refl _)
set_option maxRecDepth 20000 in
theorem wX11_answer_0 {p : Program} {l : Launch} {e : Env} {s : State} {m : MethodId} {args : Array Value} {below : List Frame} {meth : Method} {c : Code} {G : gG} {d : Nat} {Q : Option Value → gH → Prop} {h : gH} {lk sp : Nat} {cd : Option Nat} {a1 : Int32} {a2 : Int32} (hR : h.2.2 = gRF lk sp cd) (hlk : lk = 30 ∨ lk = 67) (hsp : sp = 30 ∨ sp = 67)  (vc : gC l G d MX9_countCrowds [.ref 29] h (rV fun h1 => h1.2.2 = (h).2.2 ∧ gg p l e s m args below meth c G (d + 1) MX11_answer Q 27 [some (.ref 0), some (.int a1), some (.int a2), some (.int 0), some (.int (-1)), some (.int (-1)), some (.long 0), none, some (.long 0), none, some (.long 0), none, some (.int 0), none, none] [] h1)) : gg p l e s m args below meth c G (d + 1) MX11_answer Q 0 [some (.ref 0), some (.int a1), some (.int a2), none, none, none, none, none, none, none, none, none, none, none, none] [] h := by
  refine go_iconst (v := 0) dX11_answer_0 rfl ?_
  refine go_istore_n dX11_answer_1 (Nat.le_of_ble_eq_true rfl) ?_
  show gg p l e s m args below meth c G (d + 1) MX11_answer Q 2 [some (.ref 0), some (.int a1), some (.int a2), some (.int 0), none, none, none, none, none, none, none, none, none, none, none] [] h
  refine go_iconst (v := (-1)) dX11_answer_2 rfl ?_
  refine go_istore dX11_answer_3 (Nat.le_of_ble_eq_true rfl) ?_
  show gg p l e s m args below meth c G (d + 1) MX11_answer Q 5 [some (.ref 0), some (.int a1), some (.int a2), some (.int 0), some (.int (-1)), none, none, none, none, none, none, none, none, none, none] [] h
  refine go_iconst (v := (-1)) dX11_answer_5 rfl ?_
  refine go_istore dX11_answer_6 (Nat.le_of_ble_eq_true rfl) ?_
  show gg p l e s m args below meth c G (d + 1) MX11_answer Q 8 [some (.ref 0), some (.int a1), some (.int a2), some (.int 0), some (.int (-1)), some (.int (-1)), none, none, none, none, none, none, none, none, none] [] h
  refine go_lconst (v := 0) dX11_answer_8 rfl ?_
  refine go_lstore dX11_answer_9 (Nat.le_of_ble_eq_true rfl) ?_
  show gg p l e s m args below meth c G (d + 1) MX11_answer Q 11 [some (.ref 0), some (.int a1), some (.int a2), some (.int 0), some (.int (-1)), some (.int (-1)), some (.long 0), none, none, none, none, none, none, none, none] [] h
  refine go_lconst (v := 0) dX11_answer_11 rfl ?_
  refine go_lstore dX11_answer_12 (Nat.le_of_ble_eq_true rfl) ?_
  show gg p l e s m args below meth c G (d + 1) MX11_answer Q 14 [some (.ref 0), some (.int a1), some (.int a2), some (.int 0), some (.int (-1)), some (.int (-1)), some (.long 0), none, some (.long 0), none, none, none, none, none, none] [] h
  refine go_lconst (v := 0) dX11_answer_14 rfl ?_
  refine go_lstore dX11_answer_15 (Nat.le_of_ble_eq_true rfl) ?_
  show gg p l e s m args below meth c G (d + 1) MX11_answer Q 17 [some (.ref 0), some (.int a1), some (.int a2), some (.int 0), some (.int (-1)), some (.int (-1)), some (.long 0), none, some (.long 0), none, some (.long 0), none, none, none, none] [] h
  refine go_aload_n (x := 0) dX11_answer_17 rfl ?_
  refine go_getR (x := 29) dX11_answer_18 f11_49 sh0 (fun _ _ => rfl) (rf0_4 hR) ?_
  refine gvV0 MX9_countCrowds dX11_answer_21 lX11_398 kX9_countCrowds vX9_countCrowds sh29 (by decide) rfl (Nat.le_of_ble_eq_true rfl) vc ?_
  intro h1 vc
  obtain ⟨hR1, vc⟩ := vc
  replace hR := hR1.trans hR
  refine go_iconst (v := 0) dX11_answer_24 rfl ?_
  refine go_istore dX11_answer_25 (Nat.le_of_ble_eq_true rfl) ?_
  show gg p l e s m args below meth c G (d + 1) MX11_answer Q 27 [some (.ref 0), some (.int a1), some (.int a2), some (.int 0), some (.int (-1)), some (.int (-1)), some (.long 0), none, some (.long 0), none, some (.long 0), none, some (.int 0), none, none] [] h1
  exact vc
set_option maxRecDepth 20000 in
theorem wX11_answer_27 {p : Program} {l : Launch} {e : Env} {s : State} {m : MethodId} {args : Array Value} {below : List Frame} {meth : Method} {c : Code} {G : gG} {d : Nat} {Q : Option Value → gH → Prop} {h : gH} {lk sp : Nat} {cd : Option Nat} {x1 : Int32} {x2 : Int32} {x3 : Int32} {x4 : Int32} {x5 : Int32} {x6 : Int64} {x8 : Int64} {x10 : Int64} {x12 : Int32} (hR : h.2.2 = gRF lk sp cd) (hlk : lk = 30 ∨ lk = 67) (hsp : sp = 30 ∨ sp = 67)  (vc : gC l G d MX4_cells [.ref lk] h (rI fun v1 h1 => h1.2.2 = (h).2.2 ∧ ((v1 ≤ x12 → ((x1 = 34 → Q (some (.long (x4 : Int32).toInt64)) h1) ∧ (x1 = 35 → Q (some (.long (x5 : Int32).toInt64)) h1) ∧ (x1 = 36 → Q (some (.long (x3 : Int32).toInt64)) h1) ∧ (x1 = 37 → Q (some (.long x6)) h1) ∧ (x1 = 38 → Q (some (.long x8)) h1) ∧ (x1 = 39 → Q (some (.long x10)) h1) ∧ (¬ x1 = 34 → ¬ x1 = 35 → ¬ x1 = 36 → ¬ x1 = 37 → ¬ x1 = 38 → ¬ x1 = 39 → Q (some (.long (-1000000000000000))) h1))) ∧ (¬ v1 ≤ x12 → gC l G d MX9_answerFor [.ref 29, .ref 61, .int x2, .int x12] h1 (rI fun v2 h2 => h2.2.2 = (h1).2.2 ∧ ((¬ x12 = 0 → gg p l e s m args below meth c G (d + 1) MX11_answer Q 76 [some (.ref 0), some (.int x1), some (.int x2), some (.int x3), some (.int x4), some (.int x5), some (.long x6), none, some (.long x8), none, some (.long x10), none, some (.int x12), some (.long (v2 : Int32).toInt64), none] [.long (if (v2 : Int32).toInt64 < x8 then x8 else (v2 : Int32).toInt64)] h2) ∧ (x12 = 0 → gg p l e s m args below meth c G (d + 1) MX11_answer Q 76 [some (.ref 0), some (.int x1), some (.int x2), some (.int x3), some (.int x4), some (.int x5), some (.long x6), none, some (.long x8), none, some (.long x10), none, some (.int x12), some (.long (v2 : Int32).toInt64), none] [.long (v2 : Int32).toInt64] h2))))))) : gg p l e s m args below meth c G (d + 1) MX11_answer Q 27 [some (.ref 0), some (.int x1), some (.int x2), some (.int x3), some (.int x4), some (.int x5), some (.long x6), none, some (.long x8), none, some (.long x10), none, some (.int x12), none, none] [] h := by
  refine go_iload (x := x12) dX11_answer_27 rfl ?_
  refine go_aload_n (x := 0) dX11_answer_29 rfl ?_
  refine go_getR (x := 29) dX11_answer_30 f11_49 sh0 (fun _ _ => rfl) (rf0_4 hR) ?_
  refine go_getR (x := lk) dX11_answer_33 f11_117 sh29 (fun _ _ => rfl) (rf29_2 hR) ?_
  refine gvI0 MX4_cells dX11_answer_36 lX11_401 kX4_cells vX4_cells (slx hlk) (by decide) rfl (Nat.le_of_ble_eq_true rfl) vc ?_
  intro v1 h1 vc
  obtain ⟨hR1, vc⟩ := vc
  replace hR := hR1.trans hR
  refine go_icmp_ge 139 dX11_answer_39 rfl (fun q => ?_) (fun q => ?_)
  · replace vc := vc.1 q
    refine go_iload_n (x := x1) dX11_answer_139 rfl ?_
    by_cases q0 : x1 = 34
    · refine go_tableIn (off := 40) 180 dX11_answer_140 (by rw [q0]; decide) (by rw [q0]; decide) (by rw [q0]; rfl) rfl ?_
      replace vc := vc.1 q0
      refine go_iload (x := x4) dX11_answer_180 rfl ?_
      refine go_i2l dX11_answer_182 ?_
      exact go_lret dX11_answer_183 rfl vc rfl (Nat.le_refl _) (Nat.le_refl _)
    by_cases q1 : x1 = 35
    · refine go_tableIn (off := 44) 184 dX11_answer_140 (by rw [q1]; decide) (by rw [q1]; decide) (by rw [q1]; rfl) rfl ?_
      replace vc := vc.2.1 q1
      refine go_iload (x := x5) dX11_answer_184 rfl ?_
      refine go_i2l dX11_answer_186 ?_
      exact go_lret dX11_answer_187 rfl vc rfl (Nat.le_refl _) (Nat.le_refl _)
    by_cases q2 : x1 = 36
    · refine go_tableIn (off := 48) 188 dX11_answer_140 (by rw [q2]; decide) (by rw [q2]; decide) (by rw [q2]; rfl) rfl ?_
      replace vc := vc.2.2.1 q2
      refine go_iload_n (x := x3) dX11_answer_188 rfl ?_
      refine go_i2l dX11_answer_189 ?_
      exact go_lret dX11_answer_190 rfl vc rfl (Nat.le_refl _) (Nat.le_refl _)
    by_cases q3 : x1 = 37
    · refine go_tableIn (off := 51) 191 dX11_answer_140 (by rw [q3]; decide) (by rw [q3]; decide) (by rw [q3]; rfl) rfl ?_
      replace vc := vc.2.2.2.1 q3
      refine go_lload (x := x6) dX11_answer_191 rfl ?_
      exact go_lret dX11_answer_193 rfl vc rfl (Nat.le_refl _) (Nat.le_refl _)
    by_cases q4 : x1 = 38
    · refine go_tableIn (off := 54) 194 dX11_answer_140 (by rw [q4]; decide) (by rw [q4]; decide) (by rw [q4]; rfl) rfl ?_
      replace vc := vc.2.2.2.2.1 q4
      refine go_lload (x := x8) dX11_answer_194 rfl ?_
      exact go_lret dX11_answer_196 rfl vc rfl (Nat.le_refl _) (Nat.le_refl _)
    by_cases q5 : x1 = 39
    · refine go_tableIn (off := 57) 197 dX11_answer_140 (by rw [q5]; decide) (by rw [q5]; decide) (by rw [q5]; rfl) rfl ?_
      replace vc := vc.2.2.2.2.2.1 q5
      refine go_lload (x := x10) dX11_answer_197 rfl ?_
      exact go_lret dX11_answer_199 rfl vc rfl (Nat.le_refl _) (Nat.le_refl _)
    replace vc := vc.2.2.2.2.2.2 q0 q1 q2 q3 q4 q5
    refine go_tableOut 200 dX11_answer_140 ?_ rfl ?_
    · have e0 : ¬ (x1).toInt = 34 := lv_neT q0 rfl; have e1 : ¬ (x1).toInt = 35 := lv_neT q1 rfl; have e2 : ¬ (x1).toInt = 36 := lv_neT q2 rfl; have e3 : ¬ (x1).toInt = 37 := lv_neT q3 rfl; have e4 : ¬ (x1).toInt = 38 := lv_neT q4 rfl; have e5 : ¬ (x1).toInt = 39 := lv_neT q5 rfl
      omega
    refine go_ldc2 (v := (-1000000000000000)) dX11_answer_200 nX11_350 ?_
    exact go_lret dX11_answer_203 rfl vc rfl (Nat.le_refl _) (Nat.le_refl _)
  · replace vc := vc.2 q
    refine go_aload_n (x := 0) dX11_answer_42 rfl ?_
    refine go_getR (x := 29) dX11_answer_43 f11_49 sh0 (fun _ _ => rfl) (rf0_4 hR) ?_
    refine go_aload_n (x := 0) dX11_answer_46 rfl ?_
    refine go_getR (x := 61) dX11_answer_47 f11_79 sh0 (fun _ _ => rfl) (rf0_8 hR) ?_
    refine go_iload_n (x := x2) dX11_answer_50 rfl ?_
    refine go_iload (x := x12) dX11_answer_51 rfl ?_
    refine gvI3 MX9_answerFor dX11_answer_53 lX11_404 kX9_answerFor vX9_answerFor sh29 (by decide) rfl (Nat.le_of_ble_eq_true rfl) vc ?_
    intro v2 h2 vc
    obtain ⟨hR2, vc⟩ := vc
    replace hR := hR2.trans hR
    refine go_i2l dX11_answer_56 ?_
    refine go_lstore dX11_answer_57 (Nat.le_of_ble_eq_true rfl) ?_
    show gg p l e s m args below meth c G (d + 1) MX11_answer Q 59 [some (.ref 0), some (.int x1), some (.int x2), some (.int x3), some (.int x4), some (.int x5), some (.long x6), none, some (.long x8), none, some (.long x10), none, some (.int x12), some (.long (v2 : Int32).toInt64), none] [] h2
    refine go_iload (x := x12) dX11_answer_59 rfl ?_
    refine go_if_ne 69 dX11_answer_61 rfl (fun q => ?_) (fun q => ?_)
    · replace vc := vc.1 q
      refine go_lload (x := x8) dX11_answer_69 rfl ?_
      refine go_lload (x := (v2 : Int32).toInt64) dX11_answer_71 rfl ?_
      refine go_maxL dX11_answer_73 lX11_408 (Nat.le_of_ble_eq_true rfl) ?_
      exact vc
    · replace vc := vc.2 q
      refine go_lload (x := (v2 : Int32).toInt64) dX11_answer_64 rfl ?_
      refine go_goto 76 dX11_answer_66 rfl ?_
      exact vc
set_option maxRecDepth 20000 in
theorem wX11_answer_76 {p : Program} {l : Launch} {e : Env} {s : State} {m : MethodId} {args : Array Value} {below : List Frame} {meth : Method} {c : Code} {G : gG} {d : Nat} {Q : Option Value → gH → Prop} {h : gH} {lk sp : Nat} {cd : Option Nat} {x1 : Int32} {x2 : Int32} {x3 : Int32} {x4 : Int32} {x5 : Int32} {x6 : Int64} {x8 : Int64} {x10 : Int64} {x12 : Int32} {x13 : Int64} {y0 : Int64} (hR : h.2.2 = gRF lk sp cd) (hlk : lk = 30 ∨ lk = 67) (hsp : sp = 30 ∨ sp = 67)  (vc : ((¬ x12 = 0 → gg p l e s m args below meth c G (d + 1) MX11_answer Q 95 [some (.ref 0), some (.int x1), some (.int x2), some (.int x3), some (.int x4), some (.int x5), some (.long x6), none, some (.long y0), none, some (.long x10), none, some (.int x12), some (.long x13), none] [.long (if x13 < x10 then x13 else x10)] h) ∧ (x12 = 0 → gg p l e s m args below meth c G (d + 1) MX11_answer Q 95 [some (.ref 0), some (.int x1), some (.int x2), some (.int x3), some (.int x4), some (.int x5), some (.long x6), none, some (.long y0), none, some (.long x10), none, some (.int x12), some (.long x13), none] [.long x13] h))) : gg p l e s m args below meth c G (d + 1) MX11_answer Q 76 [some (.ref 0), some (.int x1), some (.int x2), some (.int x3), some (.int x4), some (.int x5), some (.long x6), none, some (.long x8), none, some (.long x10), none, some (.int x12), some (.long x13), none] [.long y0] h := by
  refine go_lstore dX11_answer_76 (Nat.le_of_ble_eq_true rfl) ?_
  show gg p l e s m args below meth c G (d + 1) MX11_answer Q 78 [some (.ref 0), some (.int x1), some (.int x2), some (.int x3), some (.int x4), some (.int x5), some (.long x6), none, some (.long y0), none, some (.long x10), none, some (.int x12), some (.long x13), none] [] h
  refine go_iload (x := x12) dX11_answer_78 rfl ?_
  refine go_if_ne 88 dX11_answer_80 rfl (fun q => ?_) (fun q => ?_)
  · replace vc := vc.1 q
    refine go_lload (x := x10) dX11_answer_88 rfl ?_
    refine go_lload (x := x13) dX11_answer_90 rfl ?_
    refine go_minL dX11_answer_92 lX11_412 (Nat.le_of_ble_eq_true rfl) ?_
    exact vc
  · replace vc := vc.2 q
    refine go_lload (x := x13) dX11_answer_83 rfl ?_
    refine go_goto 95 dX11_answer_85 rfl ?_
    exact vc
set_option maxRecDepth 20000 in
theorem wX11_answer_95 {p : Program} {l : Launch} {e : Env} {s : State} {m : MethodId} {args : Array Value} {below : List Frame} {meth : Method} {c : Code} {G : gG} {d : Nat} {Q : Option Value → gH → Prop} {h : gH} {lk sp : Nat} {cd : Option Nat} {x1 : Int32} {x2 : Int32} {x3 : Int32} {x4 : Int32} {x5 : Int32} {x6 : Int64} {x8 : Int64} {x10 : Int64} {x12 : Int32} {x13 : Int64} {y0 : Int64} (hR : h.2.2 = gRF lk sp cd) (hlk : lk = 30 ∨ lk = 67) (hsp : sp = 30 ∨ sp = 67)  (vc : (((lg_cmp x13 0) = 0 → gg p l e s m args below meth c G (d + 1) MX11_answer Q 133 [some (.ref 0), some (.int x1), some (.int x2), some (.int x3), some (.int x4), some (.int x5), some (.long (x6 + x13)), none, some (.long x8), none, some (.long y0), none, some (.int x12), some (.long x13), none] [] h) ∧ (¬ (lg_cmp x13 0) = 0 → ((¬ x4 = (-1) → gg p l e s m args below meth c G (d + 1) MX11_answer Q 127 [some (.ref 0), some (.int x1), some (.int x2), some (.int (x3 + 1)), some (.int x4), some (.int x5), some (.long (x6 + x13)), none, some (.long x8), none, some (.long y0), none, some (.int x12), some (.long x13), none] [.int x4] h) ∧ (x4 = (-1) → gg p l e s m args below meth c G (d + 1) MX11_answer Q 127 [some (.ref 0), some (.int x1), some (.int x2), some (.int (x3 + 1)), some (.int x4), some (.int x5), some (.long (x6 + x13)), none, some (.long x8), none, some (.long y0), none, some (.int x12), some (.long x13), none] [.int x12] h))))) : gg p l e s m args below meth c G (d + 1) MX11_answer Q 95 [some (.ref 0), some (.int x1), some (.int x2), some (.int x3), some (.int x4), some (.int x5), some (.long x6), none, some (.long x8), none, some (.long x10), none, some (.int x12), some (.long x13), none] [.long y0] h := by
  refine go_lstore dX11_answer_95 (Nat.le_of_ble_eq_true rfl) ?_
  show gg p l e s m args below meth c G (d + 1) MX11_answer Q 97 [some (.ref 0), some (.int x1), some (.int x2), some (.int x3), some (.int x4), some (.int x5), some (.long x6), none, some (.long x8), none, some (.long y0), none, some (.int x12), some (.long x13), none] [] h
  refine go_lload (x := x6) dX11_answer_97 rfl ?_
  refine go_lload (x := x13) dX11_answer_99 rfl ?_
  refine go_ladd dX11_answer_101 ?_
  refine go_lstore dX11_answer_102 (Nat.le_of_ble_eq_true rfl) ?_
  show gg p l e s m args below meth c G (d + 1) MX11_answer Q 104 [some (.ref 0), some (.int x1), some (.int x2), some (.int x3), some (.int x4), some (.int x5), some (.long (x6 + x13)), none, some (.long x8), none, some (.long y0), none, some (.int x12), some (.long x13), none] [] h
  refine go_lload (x := x13) dX11_answer_104 rfl ?_
  refine go_lconst (v := 0) dX11_answer_106 rfl ?_
  refine go_lcmp dX11_answer_107 ?_
  refine go_if_eq 133 dX11_answer_108 rfl (fun q => ?_) (fun q => ?_)
  · replace vc := vc.1 q
    exact vc
  · replace vc := vc.2 q
    refine go_iinc (x := x3) dX11_answer_111 rfl ?_
    show gg p l e s m args below meth c G (d + 1) MX11_answer Q 114 [some (.ref 0), some (.int x1), some (.int x2), some (.int (x3 + 1)), some (.int x4), some (.int x5), some (.long (x6 + x13)), none, some (.long x8), none, some (.long y0), none, some (.int x12), some (.long x13), none] [] h
    refine go_iload (x := x4) dX11_answer_114 rfl ?_
    refine go_iconst (v := (-1)) dX11_answer_116 rfl ?_
    refine go_icmp_ne 125 dX11_answer_117 rfl (fun q => ?_) (fun q => ?_)
    · replace vc := vc.1 q
      refine go_iload (x := x4) dX11_answer_125 rfl ?_
      exact vc
    · replace vc := vc.2 q
      refine go_iload (x := x12) dX11_answer_120 rfl ?_
      refine go_goto 127 dX11_answer_122 rfl ?_
      exact vc
set_option maxRecDepth 20000 in
theorem wX11_answer_127 {p : Program} {l : Launch} {e : Env} {s : State} {m : MethodId} {args : Array Value} {below : List Frame} {meth : Method} {c : Code} {G : gG} {d : Nat} {Q : Option Value → gH → Prop} {h : gH} {lk sp : Nat} {cd : Option Nat} {x1 : Int32} {x2 : Int32} {x3 : Int32} {x4 : Int32} {x5 : Int32} {x6 : Int64} {x8 : Int64} {x10 : Int64} {x12 : Int32} {x13 : Int64} {y0 : Int32} (hR : h.2.2 = gRF lk sp cd) (hlk : lk = 30 ∨ lk = 67) (hsp : sp = 30 ∨ sp = 67)  (vc : gg p l e s m args below meth c G (d + 1) MX11_answer Q 133 [some (.ref 0), some (.int x1), some (.int x2), some (.int x3), some (.int y0), some (.int x12), some (.long x6), none, some (.long x8), none, some (.long x10), none, some (.int x12), some (.long x13), none] [] h) : gg p l e s m args below meth c G (d + 1) MX11_answer Q 127 [some (.ref 0), some (.int x1), some (.int x2), some (.int x3), some (.int x4), some (.int x5), some (.long x6), none, some (.long x8), none, some (.long x10), none, some (.int x12), some (.long x13), none] [.int y0] h := by
  refine go_istore dX11_answer_127 (Nat.le_of_ble_eq_true rfl) ?_
  show gg p l e s m args below meth c G (d + 1) MX11_answer Q 129 [some (.ref 0), some (.int x1), some (.int x2), some (.int x3), some (.int y0), some (.int x5), some (.long x6), none, some (.long x8), none, some (.long x10), none, some (.int x12), some (.long x13), none] [] h
  refine go_iload (x := x12) dX11_answer_129 rfl ?_
  refine go_istore dX11_answer_131 (Nat.le_of_ble_eq_true rfl) ?_
  show gg p l e s m args below meth c G (d + 1) MX11_answer Q 133 [some (.ref 0), some (.int x1), some (.int x2), some (.int x3), some (.int y0), some (.int x12), some (.long x6), none, some (.long x8), none, some (.long x10), none, some (.int x12), some (.long x13), none] [] h
  exact vc
set_option maxRecDepth 20000 in
theorem wX11_answer_133 {p : Program} {l : Launch} {e : Env} {s : State} {m : MethodId} {args : Array Value} {below : List Frame} {meth : Method} {c : Code} {G : gG} {d : Nat} {Q : Option Value → gH → Prop} {h : gH} {lk sp : Nat} {cd : Option Nat} {x1 : Int32} {x2 : Int32} {x3 : Int32} {x4 : Int32} {x5 : Int32} {x6 : Int64} {x8 : Int64} {x10 : Int64} {x12 : Int32} {x13 : Int64} (hR : h.2.2 = gRF lk sp cd) (hlk : lk = 30 ∨ lk = 67) (hsp : sp = 30 ∨ sp = 67)  (vc : gg p l e s m args below meth c G (d + 1) MX11_answer Q 27 [some (.ref 0), some (.int x1), some (.int x2), some (.int x3), some (.int x4), some (.int x5), some (.long x6), none, some (.long x8), none, some (.long x10), none, some (.int (x12 + 1)), none, none] [] h) : gg p l e s m args below meth c G (d + 1) MX11_answer Q 133 [some (.ref 0), some (.int x1), some (.int x2), some (.int x3), some (.int x4), some (.int x5), some (.long x6), none, some (.long x8), none, some (.long x10), none, some (.int x12), some (.long x13), none] [] h := by
  refine go_iinc (x := x12) dX11_answer_133 rfl ?_
  show gg p l e s m args below meth c G (d + 1) MX11_answer Q 136 [some (.ref 0), some (.int x1), some (.int x2), some (.int x3), some (.int x4), some (.int x5), some (.long x6), none, some (.long x8), none, some (.long x10), none, some (.int (x12 + 1)), some (.long x13), none] [] h
  refine go_goto 27 dX11_answer_136 rfl ?_
  refine go_weak (ls' := [some (.ref 0), some (.int x1), some (.int x2), some (.int x3), some (.int x4), some (.int x5), some (.long x6), none, some (.long x8), none, some (.long x10), none, some (.int (x12 + 1)), none, none]) ?_ vc
  exact (⟨rfl, ⟨rfl, ⟨rfl, ⟨rfl, ⟨rfl, ⟨rfl, ⟨rfl, ⟨rfl, ⟨rfl, ⟨rfl, trivial⟩⟩⟩⟩⟩⟩⟩⟩⟩⟩)
set_option maxRecDepth 20000 in
theorem wX11_draw_0 {p : Program} {l : Launch} {e : Env} {s : State} {m : MethodId} {args : Array Value} {below : List Frame} {meth : Method} {c : Code} {G : gG} {d : Nat} {Q : Option Value → gH → Prop} {h : gH} {lk sp : Nat} {cd : Option Nat} {a1 : Int32} (hR : h.2.2 = gRF lk sp cd) (hlk : lk = 30 ∨ lk = 67) (hsp : sp = 30 ∨ sp = 67)  (vc : (((h.1 0 12) < 0 → Q none h) ∧ (¬ (h.1 0 12) < 0 → ((30 ≤ (h.1 0 12) → Q none h) ∧ (¬ 30 ≤ (h.1 0 12) → (vp_in ((h.1 0 12)) 30 ∧ Q none (sI (sI h 65 ((h.1 0 12) : Int32).toNatClampNeg a1) 0 12 ((h.1 0 12) + 1)))))))) : gg p l e s m args below meth c G d MX11_draw Q 0 [some (.ref 0), some (.int a1)] [] h := by
  refine go_aload_n (x := 0) dX11_draw_0 rfl ?_
  refine go_getI' (v := (h.1 0 12)) dX11_draw_1 f11_94 sh0 (fun _ _ => rfl) rfl ?_
  refine go_if_lt 39 dX11_draw_4 rfl (fun q => ?_) (fun q => ?_)
  · replace vc := vc.1 q
    exact go_vret dX11_draw_39 rfl vc rfl (Nat.le_refl _) (Nat.le_refl _)
  · replace vc := vc.2 q
    refine go_aload_n (x := 0) dX11_draw_7 rfl ?_
    refine go_getI' (v := (h.1 0 12)) dX11_draw_8 f11_94 sh0 (fun _ _ => rfl) rfl ?_
    refine go_aload_n (x := 0) dX11_draw_11 rfl ?_
    refine go_getR (x := 65) dX11_draw_12 f11_83 sh0 (fun _ _ => rfl) (rf0_9 hR) ?_
    refine go_alen (v := 30) dX11_draw_15 sh65 (by decide) rfl ?_
    refine go_icmp_ge 39 dX11_draw_16 rfl (fun q => ?_) (fun q => ?_)
    · replace vc := vc.1 q
      exact go_vret dX11_draw_39 rfl vc rfl (Nat.le_refl _) (Nat.le_refl _)
    · replace vc := vc.2 q
      refine go_aload_n (x := 0) dX11_draw_19 rfl ?_
      refine go_getR (x := 65) dX11_draw_20 f11_83 sh0 (fun _ _ => rfl) (rf0_9 hR) ?_
      refine go_aload_n (x := 0) dX11_draw_23 rfl ?_
      refine go_getI' (v := (h.1 0 12)) dX11_draw_24 f11_94 sh0 (fun _ _ => rfl) rfl ?_
      refine go_iload_n (x := a1) dX11_draw_27 rfl ?_
      refine go_iast dX11_draw_28 sh65 vc.1 ?_
      have vc := vc.2
      show gg p l e s m args below meth c G d MX11_draw Q 29 [some (.ref 0), some (.int a1)] [] (sI h 65 ((h.1 0 12) : Int32).toNatClampNeg a1)
      refine go_aload_n (x := 0) dX11_draw_29 rfl ?_
      refine go_dup dX11_draw_30 rfl ?_
      refine go_getI' (v := (h.1 0 12)) dX11_draw_31 f11_94 sh0 (fun _ _ => rfl) rfl ?_
      refine go_iconst (v := 1) dX11_draw_34 rfl ?_
      refine go_iadd dX11_draw_35 ?_
      refine go_putI dX11_draw_36 f11_94 sh0 rfl rfl ?_
      exact go_vret dX11_draw_39 rfl vc rfl (Nat.le_refl _) (Nat.le_refl _)
set_option maxRecDepth 20000 in
theorem wX11_sealOf_0 {p : Program} {l : Launch} {e : Env} {s : State} {m : MethodId} {args : Array Value} {below : List Frame} {meth : Method} {c : Code} {G : gG} {d : Nat} {Q : Option Value → gH → Prop} {h : gH} {lk sp : Nat} {cd : Option Nat} {w1 n1 : Nat} {a2 : Int32} (hR : h.2.2 = gRF lk sp cd) (hlk : lk = 30 ∨ lk = 67) (hsp : sp = 30 ∨ sp = 67) (hw1 : gSH[w1]? = some (20, n1)) (vc : gg p l e s m args below meth c G d MX11_sealOf Q 6 [some (.ref w1), some (.int a2), some (.int 241), some (.int 0)] [] h) : gg p l e s m args below meth c G d MX11_sealOf Q 0 [some (.ref w1), some (.int a2), none, none] [] h := by
  refine go_sipush (v := 241) dX11_sealOf_0 rfl ?_
  refine go_istore_n dX11_sealOf_3 (Nat.le_of_ble_eq_true rfl) ?_
  show gg p l e s m args below meth c G d MX11_sealOf Q 4 [some (.ref w1), some (.int a2), some (.int 241), none] [] h
  refine go_iconst (v := 0) dX11_sealOf_4 rfl ?_
  refine go_istore_n dX11_sealOf_5 (Nat.le_of_ble_eq_true rfl) ?_
  show gg p l e s m args below meth c G d MX11_sealOf Q 6 [some (.ref w1), some (.int a2), some (.int 241), some (.int 0)] [] h
  exact vc
set_option maxRecDepth 20000 in
theorem wX11_sealOf_6 {p : Program} {l : Launch} {e : Env} {s : State} {m : MethodId} {args : Array Value} {below : List Frame} {meth : Method} {c : Code} {G : gG} {d : Nat} {Q : Option Value → gH → Prop} {h : gH} {lk sp : Nat} {cd : Option Nat} {w1 n1 : Nat} {x1 : Int32} {x2 : Int32} {x3 : Int32} (hR : h.2.2 = gRF lk sp cd) (hlk : lk = 30 ∨ lk = 67) (hsp : sp = 30 ∨ sp = 67) (hw1 : gSH[w1]? = some (20, n1)) (vc : ((x1 ≤ x3 → Q (some (.int x2)) h) ∧ (¬ x1 ≤ x3 → (((Int32.ofNat n1) ≤ x3 → Q (some (.int x2)) h) ∧ (¬ (Int32.ofNat n1) ≤ x3 → (vp_in x3 n1 ∧ gg p l e s m args below meth c G d MX11_sealOf Q 6 [some (.ref w1), some (.int x1), some (.int (((3 * x2) + (h.1 w1 x3.toNatClampNeg)) - ((3 * x2) + (h.1 w1 x3.toNatClampNeg)) / 251 * 251)), some (.int (x3 + 1))] [] h)))))) : gg p l e s m args below meth c G d MX11_sealOf Q 6 [some (.ref w1), some (.int x1), some (.int x2), some (.int x3)] [] h := by
  refine go_iload_n (x := x3) dX11_sealOf_6 rfl ?_
  refine go_iload_n (x := x1) dX11_sealOf_7 rfl ?_
  refine go_icmp_ge 35 dX11_sealOf_8 rfl (fun q => ?_) (fun q => ?_)
  · replace vc := vc.1 q
    refine go_iload_n (x := x2) dX11_sealOf_35 rfl ?_
    exact go_iret dX11_sealOf_36 rfl vc rfl (Nat.le_refl _) (Nat.le_refl _)
  · replace vc := vc.2 q
    refine go_iload_n (x := x3) dX11_sealOf_11 rfl ?_
    refine go_aload_n (x := w1) dX11_sealOf_12 rfl ?_
    refine go_alen (v := (Int32.ofNat n1)) dX11_sealOf_13 hw1 (by decide) rfl ?_
    refine go_icmp_ge 35 dX11_sealOf_14 rfl (fun q => ?_) (fun q => ?_)
    · replace vc := vc.1 q
      refine go_iload_n (x := x2) dX11_sealOf_35 rfl ?_
      exact go_iret dX11_sealOf_36 rfl vc rfl (Nat.le_refl _) (Nat.le_refl _)
    · replace vc := vc.2 q
      refine go_iconst (v := 3) dX11_sealOf_17 rfl ?_
      refine go_iload_n (x := x2) dX11_sealOf_18 rfl ?_
      refine go_imul dX11_sealOf_19 ?_
      refine go_aload_n (x := w1) dX11_sealOf_20 rfl ?_
      refine go_iload_n (x := x3) dX11_sealOf_21 rfl ?_
      refine go_iald' (v := (h.1 w1 x3.toNatClampNeg)) dX11_sealOf_22 hw1 vc.1 rfl ?_
      have vc := vc.2
      refine go_iadd dX11_sealOf_23 ?_
      refine go_sipush (v := 251) dX11_sealOf_24 rfl ?_
      refine go_irem dX11_sealOf_27 (by decide) ?_
      refine go_istore_n dX11_sealOf_28 (Nat.le_of_ble_eq_true rfl) ?_
      show gg p l e s m args below meth c G d MX11_sealOf Q 29 [some (.ref w1), some (.int x1), some (.int (((3 * x2) + (h.1 w1 x3.toNatClampNeg)) - ((3 * x2) + (h.1 w1 x3.toNatClampNeg)) / 251 * 251)), some (.int x3)] [] h
      refine go_iinc (x := x3) dX11_sealOf_29 rfl ?_
      show gg p l e s m args below meth c G d MX11_sealOf Q 32 [some (.ref w1), some (.int x1), some (.int (((3 * x2) + (h.1 w1 x3.toNatClampNeg)) - ((3 * x2) + (h.1 w1 x3.toNatClampNeg)) / 251 * 251)), some (.int (x3 + 1))] [] h
      refine go_goto 6 dX11_sealOf_32 rfl ?_
      exact vc
set_option maxRecDepth 20000 in
theorem wX11_isImage_0 {p : Program} {l : Launch} {e : Env} {s : State} {m : MethodId} {args : Array Value} {below : List Frame} {meth : Method} {c : Code} {G : gG} {d : Nat} {Q : Option Value → gH → Prop} {h : gH} {lk sp : Nat} {cd : Option Nat} {w1 n1 : Nat} {a2 : Int32} (hR : h.2.2 = gRF lk sp cd) (hlk : lk = 30 ∨ lk = 67) (hsp : sp = 30 ∨ sp = 67) (hw1 : gSH[w1]? = some (20, n1)) (vc : ((¬ a2 = ((5 + (4 * (h.1 lk 13))) + 1) → Q (some (.int 0)) h) ∧ (a2 = ((5 + (4 * (h.1 lk 13))) + 1) → (((Int32.ofNat n1) < a2 → Q (some (.int 0)) h) ∧ (¬ (Int32.ofNat n1) < a2 → (vp_in ((5 + (4 * (h.1 lk 13)))) n1 ∧ gC l G d MX11_sealOf [.ref w1, .int (5 + (4 * (h.1 lk 13)))] h (rI fun v1 h1 => h1.2.2 = (h).2.2 ∧ (((h.1 w1 ((5 + (4 * (h.1 lk 13))) : Int32).toNatClampNeg) = v1 → gC l G d MX2_hourIn [.ref w1] h1 (rI fun v2 h2 => h2.2.2 = (h1).2.2 ∧ ((999 < v2 → Q (some (.int 0)) h2) ∧ (¬ 999 < v2 → gC l G d MX2_coinsIn [.ref w1] h2 (rI fun v3 h3 => h3.2.2 = (h2).2.2 ∧ ((v3 ≤ 999999 → gg p l e s m args below meth c G (d + 1) MX11_isImage Q 69 [some (.ref 0), some (.ref w1), some (.int a2), some (.int (5 + (4 * (h.1 lk 13)))), some (.int 0), some (.int 0), none, none, none] [] h3) ∧ (¬ v3 ≤ 999999 → Q (some (.int 0)) h3))))))) ∧ (¬ (h.1 w1 ((5 + (4 * (h.1 lk 13))) : Int32).toNatClampNeg) = v1 → Q (some (.int 0)) h1))))))))) : gg p l e s m args below meth c G (d + 1) MX11_isImage Q 0 [some (.ref 0), some (.ref w1), some (.int a2), none, none, none, none, none, none] [] h := by
  refine go_iconst (v := 5) dX11_isImage_0 rfl ?_
  refine go_iconst (v := 4) dX11_isImage_1 rfl ?_
  refine go_aload_n (x := 0) dX11_isImage_2 rfl ?_
  refine go_getR (x := 29) dX11_isImage_3 f11_49 sh0 (fun _ _ => rfl) (rf0_4 hR) ?_
  refine go_getR (x := lk) dX11_isImage_6 f11_117 sh29 (fun _ _ => rfl) (rf29_2 hR) ?_
  refine go_getI' (v := (h.1 lk 13)) dX11_isImage_9 f11_142 (slx hlk) (fun _ _ => rfl) rfl ?_
  refine go_imul dX11_isImage_12 ?_
  refine go_iadd dX11_isImage_13 ?_
  refine go_istore_n dX11_isImage_14 (Nat.le_of_ble_eq_true rfl) ?_
  show gg p l e s m args below meth c G (d + 1) MX11_isImage Q 15 [some (.ref 0), some (.ref w1), some (.int a2), some (.int (5 + (4 * (h.1 lk 13)))), none, none, none, none, none] [] h
  refine go_iload_n (x := a2) dX11_isImage_15 rfl ?_
  refine go_iload_n (x := (5 + (4 * (h.1 lk 13)))) dX11_isImage_16 rfl ?_
  refine go_iconst (v := 1) dX11_isImage_17 rfl ?_
  refine go_iadd dX11_isImage_18 ?_
  refine go_icmp_ne 39 dX11_isImage_19 rfl (fun q => ?_) (fun q => ?_)
  · replace vc := vc.1 q
    refine go_iconst (v := 0) dX11_isImage_39 rfl ?_
    exact go_zret dX11_isImage_40 rfl (by decide) vc rfl (Nat.le_refl _) (Nat.le_refl _)
  · replace vc := vc.2 q
    refine go_iload_n (x := a2) dX11_isImage_22 rfl ?_
    refine go_aload_n (x := w1) dX11_isImage_23 rfl ?_
    refine go_alen (v := (Int32.ofNat n1)) dX11_isImage_24 hw1 (by decide) rfl ?_
    refine go_icmp_gt 39 dX11_isImage_25 rfl (fun q => ?_) (fun q => ?_)
    · replace vc := vc.1 q
      refine go_iconst (v := 0) dX11_isImage_39 rfl ?_
      exact go_zret dX11_isImage_40 rfl (by decide) vc rfl (Nat.le_refl _) (Nat.le_refl _)
    · replace vc := vc.2 q
      refine go_aload_n (x := w1) dX11_isImage_28 rfl ?_
      refine go_iload_n (x := (5 + (4 * (h.1 lk 13)))) dX11_isImage_29 rfl ?_
      refine go_iald' (v := (h.1 w1 ((5 + (4 * (h.1 lk 13))) : Int32).toNatClampNeg)) dX11_isImage_30 hw1 vc.1 rfl ?_
      have vc := vc.2
      refine go_aload_n (x := w1) dX11_isImage_31 rfl ?_
      refine go_iload_n (x := (5 + (4 * (h.1 lk 13)))) dX11_isImage_32 rfl ?_
      refine gsI2 MX11_sealOf dX11_isImage_33 lX11_367 kX11_sealOf sX11_sealOf (Nat.le_of_ble_eq_true rfl) vc ?_
      intro v1 h1 vc
      obtain ⟨hR1, vc⟩ := vc
      replace hR := hR1.trans hR
      refine go_icmp_eq 41 dX11_isImage_36 rfl (fun q => ?_) (fun q => ?_)
      · replace vc := vc.1 q
        refine go_aload_n (x := w1) dX11_isImage_41 rfl ?_
        refine gsI1 MX2_hourIn dX11_isImage_42 lX11_414 kX2_hourIn sX2_hourIn (Nat.le_of_ble_eq_true rfl) vc ?_
        intro v2 h2 vc
        obtain ⟨hR2, vc⟩ := vc
        replace hR := hR2.trans hR
        refine go_sipush (v := 999) dX11_isImage_45 rfl ?_
        refine go_icmp_gt 61 dX11_isImage_48 rfl (fun q => ?_) (fun q => ?_)
        · replace vc := vc.1 q
          refine go_iconst (v := 0) dX11_isImage_61 rfl ?_
          exact go_zret dX11_isImage_62 rfl (by decide) vc rfl (Nat.le_refl _) (Nat.le_refl _)
        · replace vc := vc.2 q
          refine go_aload_n (x := w1) dX11_isImage_51 rfl ?_
          refine gsI1 MX2_coinsIn dX11_isImage_52 lX11_418 kX2_coinsIn sX2_coinsIn (Nat.le_of_ble_eq_true rfl) vc ?_
          intro v3 h3 vc
          obtain ⟨hR3, vc⟩ := vc
          replace hR := hR3.trans hR
          refine go_ldcw (v := 999999) dX11_isImage_55 nX11_421 ?_
          refine go_icmp_le 63 dX11_isImage_58 rfl (fun q => ?_) (fun q => ?_)
          · replace vc := vc.1 q
            refine go_iconst (v := 0) dX11_isImage_63 rfl ?_
            refine go_istore dX11_isImage_64 (Nat.le_of_ble_eq_true rfl) ?_
            show gg p l e s m args below meth c G (d + 1) MX11_isImage Q 66 [some (.ref 0), some (.ref w1), some (.int a2), some (.int (5 + (4 * (h.1 lk 13)))), some (.int 0), none, none, none, none] [] h3
            refine go_iconst (v := 0) dX11_isImage_66 rfl ?_
            refine go_istore dX11_isImage_67 (Nat.le_of_ble_eq_true rfl) ?_
            show gg p l e s m args below meth c G (d + 1) MX11_isImage Q 69 [some (.ref 0), some (.ref w1), some (.int a2), some (.int (5 + (4 * (h.1 lk 13)))), some (.int 0), some (.int 0), none, none, none] [] h3
            exact vc
          · replace vc := vc.2 q
            refine go_iconst (v := 0) dX11_isImage_61 rfl ?_
            exact go_zret dX11_isImage_62 rfl (by decide) vc rfl (Nat.le_refl _) (Nat.le_refl _)
      · replace vc := vc.2 q
        refine go_iconst (v := 0) dX11_isImage_39 rfl ?_
        exact go_zret dX11_isImage_40 rfl (by decide) vc rfl (Nat.le_refl _) (Nat.le_refl _)
set_option maxRecDepth 20000 in
theorem wX11_isImage_69 {p : Program} {l : Launch} {e : Env} {s : State} {m : MethodId} {args : Array Value} {below : List Frame} {meth : Method} {c : Code} {G : gG} {d : Nat} {Q : Option Value → gH → Prop} {h : gH} {lk sp : Nat} {cd : Option Nat} {w1 n1 : Nat} {x2 : Int32} {x3 : Int32} {x4 : Int32} {x5 : Int32} (hR : h.2.2 = gRF lk sp cd) (hlk : lk = 30 ∨ lk = 67) (hsp : sp = 30 ∨ sp = 67) (hw1 : gSH[w1]? = some (20, n1)) (vc : (((h.1 lk 13) ≤ x5 → Q (some (.int 1)) h) ∧ (¬ (h.1 lk 13) ≤ x5 → (vp_in (((5 + (4 * x5)) + 3)) n1 ∧ (vp_in ((5 + (4 * x5))) n1 ∧ gC l G d MX4_isWater [.ref lk, .int (h.1 w1 ((5 + (4 * x5)) : Int32).toNatClampNeg)] h (rI fun v1 h1 => h1.2.2 = (h).2.2 ∧ ((v1 = 0 → Q (some (.int 0)) h1) ∧ (¬ v1 = 0 → (vp_in (((5 + (4 * x5)) + 1)) n1 ∧ ((99 < (h1.1 w1 (((5 + (4 * x5)) + 1) : Int32).toNatClampNeg) → Q (some (.int 0)) h1) ∧ (¬ 99 < (h1.1 w1 (((5 + (4 * x5)) + 1) : Int32).toNatClampNeg) → (vp_in (((5 + (4 * x5)) + 2)) n1 ∧ ((99 < (h1.1 w1 (((5 + (4 * x5)) + 2) : Int32).toNatClampNeg) → Q (some (.int 0)) h1) ∧ (¬ 99 < (h1.1 w1 (((5 + (4 * x5)) + 2) : Int32).toNatClampNeg) → (((h1.1 lk 14) < (h.1 w1 (((5 + (4 * x5)) + 3) : Int32).toNatClampNeg) → Q (some (.int 0)) h1) ∧ (¬ (h1.1 lk 14) < (h.1 w1 (((5 + (4 * x5)) + 3) : Int32).toNatClampNeg) → (((h.1 w1 (((5 + (4 * x5)) + 3) : Int32).toNatClampNeg) ≤ 0 → gg p l e s m args below meth c G (d + 1) MX11_isImage Q 69 [some (.ref 0), some (.ref w1), some (.int x2), some (.int x3), some (.int (x4 ||| (1 <<< ((h.1 w1 (((5 + (4 * x5)) + 3) : Int32).toNatClampNeg) &&& 31)))), some (.int (x5 + 1)), none, none, none] [] h1) ∧ (¬ (h.1 w1 (((5 + (4 * x5)) + 3) : Int32).toNatClampNeg) ≤ 0 → ((¬ ((x4 >>> ((h.1 w1 (((5 + (4 * x5)) + 3) : Int32).toNatClampNeg) &&& 31)) &&& 1) = 1 → gg p l e s m args below meth c G (d + 1) MX11_isImage Q 69 [some (.ref 0), some (.ref w1), some (.int x2), some (.int x3), some (.int (x4 ||| (1 <<< ((h.1 w1 (((5 + (4 * x5)) + 3) : Int32).toNatClampNeg) &&& 31)))), some (.int (x5 + 1)), none, none, none] [] h1) ∧ (((x4 >>> ((h.1 w1 (((5 + (4 * x5)) + 3) : Int32).toNatClampNeg) &&& 31)) &&& 1) = 1 → Q (some (.int 0)) h1)))))))))))))))))))) : gg p l e s m args below meth c G (d + 1) MX11_isImage Q 69 [some (.ref 0), some (.ref w1), some (.int x2), some (.int x3), some (.int x4), some (.int x5), none, none, none] [] h := by
  refine go_iload (x := x5) dX11_isImage_69 rfl ?_
  refine go_aload_n (x := 0) dX11_isImage_71 rfl ?_
  refine go_getR (x := 29) dX11_isImage_72 f11_49 sh0 (fun _ _ => rfl) (rf0_4 hR) ?_
  refine go_getR (x := lk) dX11_isImage_75 f11_117 sh29 (fun _ _ => rfl) (rf29_2 hR) ?_
  refine go_getI' (v := (h.1 lk 13)) dX11_isImage_78 f11_142 (slx hlk) (fun _ _ => rfl) rfl ?_
  refine go_icmp_ge 199 dX11_isImage_81 rfl (fun q => ?_) (fun q => ?_)
  · replace vc := vc.1 q
    refine go_iconst (v := 1) dX11_isImage_199 rfl ?_
    exact go_zret dX11_isImage_200 rfl (by decide) vc rfl (Nat.le_refl _) (Nat.le_refl _)
  · replace vc := vc.2 q
    refine go_iconst (v := 5) dX11_isImage_84 rfl ?_
    refine go_iconst (v := 4) dX11_isImage_85 rfl ?_
    refine go_iload (x := x5) dX11_isImage_86 rfl ?_
    refine go_imul dX11_isImage_88 ?_
    refine go_iadd dX11_isImage_89 ?_
    refine go_istore dX11_isImage_90 (Nat.le_of_ble_eq_true rfl) ?_
    show gg p l e s m args below meth c G (d + 1) MX11_isImage Q 92 [some (.ref 0), some (.ref w1), some (.int x2), some (.int x3), some (.int x4), some (.int x5), some (.int (5 + (4 * x5))), none, none] [] h
    refine go_aload_n (x := w1) dX11_isImage_92 rfl ?_
    refine go_iload (x := (5 + (4 * x5))) dX11_isImage_93 rfl ?_
    refine go_iconst (v := 3) dX11_isImage_95 rfl ?_
    refine go_iadd dX11_isImage_96 ?_
    refine go_iald' (v := (h.1 w1 (((5 + (4 * x5)) + 3) : Int32).toNatClampNeg)) dX11_isImage_97 hw1 vc.1 rfl ?_
    have vc := vc.2
    refine go_istore dX11_isImage_98 (Nat.le_of_ble_eq_true rfl) ?_
    show gg p l e s m args below meth c G (d + 1) MX11_isImage Q 100 [some (.ref 0), some (.ref w1), some (.int x2), some (.int x3), some (.int x4), some (.int x5), some (.int (5 + (4 * x5))), some (.int (h.1 w1 (((5 + (4 * x5)) + 3) : Int32).toNatClampNeg)), none] [] h
    refine go_aload_n (x := 0) dX11_isImage_100 rfl ?_
    refine go_getR (x := 29) dX11_isImage_101 f11_49 sh0 (fun _ _ => rfl) (rf0_4 hR) ?_
    refine go_getR (x := lk) dX11_isImage_104 f11_117 sh29 (fun _ _ => rfl) (rf29_2 hR) ?_
    refine go_aload_n (x := w1) dX11_isImage_107 rfl ?_
    refine go_iload (x := (5 + (4 * x5))) dX11_isImage_108 rfl ?_
    refine go_iald' (v := (h.1 w1 ((5 + (4 * x5)) : Int32).toNatClampNeg)) dX11_isImage_110 hw1 vc.1 rfl ?_
    have vc := vc.2
    refine gvI1 MX4_isWater dX11_isImage_111 lX11_232 kX4_isWater vX4_isWater (slx hlk) (by decide) rfl (Nat.le_of_ble_eq_true rfl) vc ?_
    intro v1 h1 vc
    obtain ⟨hR1, vc⟩ := vc
    replace hR := hR1.trans hR
    refine go_if_eq 158 dX11_isImage_114 rfl (fun q => ?_) (fun q => ?_)
    · replace vc := vc.1 q
      refine go_iconst (v := 0) dX11_isImage_158 rfl ?_
      refine go_istore dX11_isImage_159 (Nat.le_of_ble_eq_true rfl) ?_
      show gg p l e s m args below meth c G (d + 1) MX11_isImage Q 161 [some (.ref 0), some (.ref w1), some (.int x2), some (.int x3), some (.int x4), some (.int x5), some (.int (5 + (4 * x5))), some (.int (h.1 w1 (((5 + (4 * x5)) + 3) : Int32).toNatClampNeg)), some (.int 0)] [] h1
      refine go_iload (x := 0) dX11_isImage_161 rfl ?_
      refine go_if_eq 182 dX11_isImage_163 rfl (fun q => ?_) (fun q => absurd q (by decide))
      refine go_iconst (v := 0) dX11_isImage_182 rfl ?_
      exact go_zret dX11_isImage_183 rfl (by decide) vc rfl (Nat.le_refl _) (Nat.le_refl _)
    · replace vc := vc.2 q
      refine go_aload_n (x := w1) dX11_isImage_117 rfl ?_
      refine go_iload (x := (5 + (4 * x5))) dX11_isImage_118 rfl ?_
      refine go_iconst (v := 1) dX11_isImage_120 rfl ?_
      refine go_iadd dX11_isImage_121 ?_
      refine go_iald' (v := (h1.1 w1 (((5 + (4 * x5)) + 1) : Int32).toNatClampNeg)) dX11_isImage_122 hw1 vc.1 rfl ?_
      have vc := vc.2
      refine go_bipush (v := 99) dX11_isImage_123 rfl ?_
      refine go_icmp_gt 158 dX11_isImage_125 rfl (fun q => ?_) (fun q => ?_)
      · replace vc := vc.1 q
        refine go_iconst (v := 0) dX11_isImage_158 rfl ?_
        refine go_istore dX11_isImage_159 (Nat.le_of_ble_eq_true rfl) ?_
        show gg p l e s m args below meth c G (d + 1) MX11_isImage Q 161 [some (.ref 0), some (.ref w1), some (.int x2), some (.int x3), some (.int x4), some (.int x5), some (.int (5 + (4 * x5))), some (.int (h.1 w1 (((5 + (4 * x5)) + 3) : Int32).toNatClampNeg)), some (.int 0)] [] h1
        refine go_iload (x := 0) dX11_isImage_161 rfl ?_
        refine go_if_eq 182 dX11_isImage_163 rfl (fun q => ?_) (fun q => absurd q (by decide))
        refine go_iconst (v := 0) dX11_isImage_182 rfl ?_
        exact go_zret dX11_isImage_183 rfl (by decide) vc rfl (Nat.le_refl _) (Nat.le_refl _)
      · replace vc := vc.2 q
        refine go_aload_n (x := w1) dX11_isImage_128 rfl ?_
        refine go_iload (x := (5 + (4 * x5))) dX11_isImage_129 rfl ?_
        refine go_iconst (v := 2) dX11_isImage_131 rfl ?_
        refine go_iadd dX11_isImage_132 ?_
        refine go_iald' (v := (h1.1 w1 (((5 + (4 * x5)) + 2) : Int32).toNatClampNeg)) dX11_isImage_133 hw1 vc.1 rfl ?_
        have vc := vc.2
        refine go_bipush (v := 99) dX11_isImage_134 rfl ?_
        refine go_icmp_gt 158 dX11_isImage_136 rfl (fun q => ?_) (fun q => ?_)
        · replace vc := vc.1 q
          refine go_iconst (v := 0) dX11_isImage_158 rfl ?_
          refine go_istore dX11_isImage_159 (Nat.le_of_ble_eq_true rfl) ?_
          show gg p l e s m args below meth c G (d + 1) MX11_isImage Q 161 [some (.ref 0), some (.ref w1), some (.int x2), some (.int x3), some (.int x4), some (.int x5), some (.int (5 + (4 * x5))), some (.int (h.1 w1 (((5 + (4 * x5)) + 3) : Int32).toNatClampNeg)), some (.int 0)] [] h1
          refine go_iload (x := 0) dX11_isImage_161 rfl ?_
          refine go_if_eq 182 dX11_isImage_163 rfl (fun q => ?_) (fun q => absurd q (by decide))
          refine go_iconst (v := 0) dX11_isImage_182 rfl ?_
          exact go_zret dX11_isImage_183 rfl (by decide) vc rfl (Nat.le_refl _) (Nat.le_refl _)
        · replace vc := vc.2 q
          refine go_iload (x := (h.1 w1 (((5 + (4 * x5)) + 3) : Int32).toNatClampNeg)) dX11_isImage_139 rfl ?_
          refine go_aload_n (x := 0) dX11_isImage_141 rfl ?_
          refine go_getR (x := 29) dX11_isImage_142 f11_49 sh0 (fun _ _ => rfl) (rf0_4 hR) ?_
          refine go_getR (x := lk) dX11_isImage_145 f11_117 sh29 (fun _ _ => rfl) (rf29_2 hR) ?_
          refine go_getI' (v := (h1.1 lk 14)) dX11_isImage_148 f11_145 (slx hlk) (fun _ _ => rfl) rfl ?_
          refine go_icmp_gt 158 dX11_isImage_151 rfl (fun q => ?_) (fun q => ?_)
          · replace vc := vc.1 q
            refine go_iconst (v := 0) dX11_isImage_158 rfl ?_
            refine go_istore dX11_isImage_159 (Nat.le_of_ble_eq_true rfl) ?_
            show gg p l e s m args below meth c G (d + 1) MX11_isImage Q 161 [some (.ref 0), some (.ref w1), some (.int x2), some (.int x3), some (.int x4), some (.int x5), some (.int (5 + (4 * x5))), some (.int (h.1 w1 (((5 + (4 * x5)) + 3) : Int32).toNatClampNeg)), some (.int 0)] [] h1
            refine go_iload (x := 0) dX11_isImage_161 rfl ?_
            refine go_if_eq 182 dX11_isImage_163 rfl (fun q => ?_) (fun q => absurd q (by decide))
            refine go_iconst (v := 0) dX11_isImage_182 rfl ?_
            exact go_zret dX11_isImage_183 rfl (by decide) vc rfl (Nat.le_refl _) (Nat.le_refl _)
          · replace vc := vc.2 q
            refine go_iconst (v := 1) dX11_isImage_154 rfl ?_
            refine go_goto 159 dX11_isImage_155 rfl ?_
            refine go_istore dX11_isImage_159 (Nat.le_of_ble_eq_true rfl) ?_
            show gg p l e s m args below meth c G (d + 1) MX11_isImage Q 161 [some (.ref 0), some (.ref w1), some (.int x2), some (.int x3), some (.int x4), some (.int x5), some (.int (5 + (4 * x5))), some (.int (h.1 w1 (((5 + (4 * x5)) + 3) : Int32).toNatClampNeg)), some (.int 1)] [] h1
            refine go_iload (x := 1) dX11_isImage_161 rfl ?_
            refine go_if_eq 182 dX11_isImage_163 rfl (fun q => absurd q (by decide)) (fun q => ?_)
            refine go_iload (x := (h.1 w1 (((5 + (4 * x5)) + 3) : Int32).toNatClampNeg)) dX11_isImage_166 rfl ?_
            refine go_if_le 184 dX11_isImage_168 rfl (fun q => ?_) (fun q => ?_)
            · replace vc := vc.1 q
              refine go_iload (x := x4) dX11_isImage_184 rfl ?_
              refine go_iconst (v := 1) dX11_isImage_186 rfl ?_
              refine go_iload (x := (h.1 w1 (((5 + (4 * x5)) + 3) : Int32).toNatClampNeg)) dX11_isImage_187 rfl ?_
              refine go_ishl dX11_isImage_189 ?_
              refine go_ior dX11_isImage_190 ?_
              refine go_istore dX11_isImage_191 (Nat.le_of_ble_eq_true rfl) ?_
              show gg p l e s m args below meth c G (d + 1) MX11_isImage Q 193 [some (.ref 0), some (.ref w1), some (.int x2), some (.int x3), some (.int (x4 ||| (1 <<< ((h.1 w1 (((5 + (4 * x5)) + 3) : Int32).toNatClampNeg) &&& 31)))), some (.int x5), some (.int (5 + (4 * x5))), some (.int (h.1 w1 (((5 + (4 * x5)) + 3) : Int32).toNatClampNeg)), some (.int 1)] [] h1
              refine go_iinc (x := x5) dX11_isImage_193 rfl ?_
              show gg p l e s m args below meth c G (d + 1) MX11_isImage Q 196 [some (.ref 0), some (.ref w1), some (.int x2), some (.int x3), some (.int (x4 ||| (1 <<< ((h.1 w1 (((5 + (4 * x5)) + 3) : Int32).toNatClampNeg) &&& 31)))), some (.int (x5 + 1)), some (.int (5 + (4 * x5))), some (.int (h.1 w1 (((5 + (4 * x5)) + 3) : Int32).toNatClampNeg)), some (.int 1)] [] h1
              refine go_goto 69 dX11_isImage_196 rfl ?_
              refine go_weak (ls' := [some (.ref 0), some (.ref w1), some (.int x2), some (.int x3), some (.int (x4 ||| (1 <<< ((h.1 w1 (((5 + (4 * x5)) + 3) : Int32).toNatClampNeg) &&& 31)))), some (.int (x5 + 1)), none, none, none]) ?_ vc
              exact (⟨rfl, ⟨rfl, ⟨rfl, ⟨rfl, ⟨rfl, ⟨rfl, trivial⟩⟩⟩⟩⟩⟩)
            · replace vc := vc.2 q
              refine go_iload (x := x4) dX11_isImage_171 rfl ?_
              refine go_iload (x := (h.1 w1 (((5 + (4 * x5)) + 3) : Int32).toNatClampNeg)) dX11_isImage_173 rfl ?_
              refine go_ishr dX11_isImage_175 ?_
              refine go_iconst (v := 1) dX11_isImage_176 rfl ?_
              refine go_iand dX11_isImage_177 ?_
              refine go_iconst (v := 1) dX11_isImage_178 rfl ?_
              refine go_icmp_ne 184 dX11_isImage_179 rfl (fun q => ?_) (fun q => ?_)
              · replace vc := vc.1 q
                refine go_iload (x := x4) dX11_isImage_184 rfl ?_
                refine go_iconst (v := 1) dX11_isImage_186 rfl ?_
                refine go_iload (x := (h.1 w1 (((5 + (4 * x5)) + 3) : Int32).toNatClampNeg)) dX11_isImage_187 rfl ?_
                refine go_ishl dX11_isImage_189 ?_
                refine go_ior dX11_isImage_190 ?_
                refine go_istore dX11_isImage_191 (Nat.le_of_ble_eq_true rfl) ?_
                show gg p l e s m args below meth c G (d + 1) MX11_isImage Q 193 [some (.ref 0), some (.ref w1), some (.int x2), some (.int x3), some (.int (x4 ||| (1 <<< ((h.1 w1 (((5 + (4 * x5)) + 3) : Int32).toNatClampNeg) &&& 31)))), some (.int x5), some (.int (5 + (4 * x5))), some (.int (h.1 w1 (((5 + (4 * x5)) + 3) : Int32).toNatClampNeg)), some (.int 1)] [] h1
                refine go_iinc (x := x5) dX11_isImage_193 rfl ?_
                show gg p l e s m args below meth c G (d + 1) MX11_isImage Q 196 [some (.ref 0), some (.ref w1), some (.int x2), some (.int x3), some (.int (x4 ||| (1 <<< ((h.1 w1 (((5 + (4 * x5)) + 3) : Int32).toNatClampNeg) &&& 31)))), some (.int (x5 + 1)), some (.int (5 + (4 * x5))), some (.int (h.1 w1 (((5 + (4 * x5)) + 3) : Int32).toNatClampNeg)), some (.int 1)] [] h1
                refine go_goto 69 dX11_isImage_196 rfl ?_
                refine go_weak (ls' := [some (.ref 0), some (.ref w1), some (.int x2), some (.int x3), some (.int (x4 ||| (1 <<< ((h.1 w1 (((5 + (4 * x5)) + 3) : Int32).toNatClampNeg) &&& 31)))), some (.int (x5 + 1)), none, none, none]) ?_ vc
                exact (⟨rfl, ⟨rfl, ⟨rfl, ⟨rfl, ⟨rfl, ⟨rfl, trivial⟩⟩⟩⟩⟩⟩)
              · replace vc := vc.2 q
                refine go_iconst (v := 0) dX11_isImage_182 rfl ?_
                exact go_zret dX11_isImage_183 rfl (by decide) vc rfl (Nat.le_refl _) (Nat.le_refl _)
set_option maxRecDepth 20000 in
theorem wX11_inTrust_0 {p : Program} {l : Launch} {e : Env} {s : State} {m : MethodId} {args : Array Value} {below : List Frame} {meth : Method} {c : Code} {G : gG} {d : Nat} {Q : Option Value → gH → Prop} {h : gH} {lk sp : Nat} {cd : Option Nat} {a1 : Int32} (hR : h.2.2 = gRF lk sp cd) (hlk : lk = 30 ∨ lk = 67) (hsp : sp = 30 ∨ sp = 67)  (vc : Q (some (.int (if 0 < (if a1 < 99 then a1 else 99) then (if a1 < 99 then a1 else 99) else 0))) h) : gg p l e s m args below meth c G (d + 1) MX11_inTrust Q 0 [some (.int a1)] [] h := by
  refine go_iconst (v := 0) dX11_inTrust_0 rfl ?_
  refine go_bipush (v := 99) dX11_inTrust_1 rfl ?_
  refine go_iload_n (x := a1) dX11_inTrust_3 rfl ?_
  refine go_min dX11_inTrust_4 lX11_325 (Nat.le_of_ble_eq_true rfl) ?_
  refine go_max dX11_inTrust_7 lX11_422 (Nat.le_of_ble_eq_true rfl) ?_
  exact go_iret dX11_inTrust_10 rfl vc rfl (Nat.le_refl _) (Nat.le_refl _)
set_option maxRecDepth 20000 in
theorem wX12_isIn_0 {p : Program} {l : Launch} {e : Env} {s : State} {m : MethodId} {args : Array Value} {below : List Frame} {meth : Method} {c : Code} {G : gG} {d : Nat} {Q : Option Value → gH → Prop} {h : gH} {lk sp : Nat} {cd : Option Nat} {a1 : Int64} {a2 : Int64} {a3 : Int64} (hR : h.2.2 = gRF lk sp cd) (hlk : lk = 30 ∨ lk = 67) (hsp : sp = 30 ∨ sp = 67)  (vc : (((lg_cmp a1 a2) < 0 → Q (some (.int 0)) h) ∧ (¬ (lg_cmp a1 a2) < 0 → ((0 < (lg_cmp a1 a3) → Q (some (.int 0)) h) ∧ (¬ 0 < (lg_cmp a1 a3) → Q (some (.int 1)) h))))) : gg p l e s m args below meth c G d MX12_isIn Q 0 [some (.long a1), none, some (.long a2), none, some (.long a3), none] [] h := by
  refine go_lload_n (x := a1) dX12_isIn_0 rfl ?_
  refine go_lload_n (x := a2) dX12_isIn_1 rfl ?_
  refine go_lcmp dX12_isIn_2 ?_
  refine go_if_lt 17 dX12_isIn_3 rfl (fun q => ?_) (fun q => ?_)
  · replace vc := vc.1 q
    refine go_iconst (v := 0) dX12_isIn_17 rfl ?_
    exact go_zret dX12_isIn_18 rfl (by decide) vc rfl (Nat.le_refl _) (Nat.le_refl _)
  · replace vc := vc.2 q
    refine go_lload_n (x := a1) dX12_isIn_6 rfl ?_
    refine go_lload (x := a3) dX12_isIn_7 rfl ?_
    refine go_lcmp dX12_isIn_9 ?_
    refine go_if_gt 17 dX12_isIn_10 rfl (fun q => ?_) (fun q => ?_)
    · replace vc := vc.1 q
      refine go_iconst (v := 0) dX12_isIn_17 rfl ?_
      exact go_zret dX12_isIn_18 rfl (by decide) vc rfl (Nat.le_refl _) (Nat.le_refl _)
    · replace vc := vc.2 q
      refine go_iconst (v := 1) dX12_isIn_13 rfl ?_
      refine go_goto 18 dX12_isIn_14 rfl ?_
      exact go_zret dX12_isIn_18 rfl (by decide) vc rfl (Nat.le_refl _) (Nat.le_refl _)
set_option maxRecDepth 20000 in
theorem wX12_feed_0 {p : Program} {l : Launch} {e : Env} {s : State} {m : MethodId} {args : Array Value} {below : List Frame} {meth : Method} {c : Code} {G : gG} {d : Nat} {Q : Option Value → gH → Prop} {h : gH} {lk sp : Nat} {cd : Option Nat} {a1 : Int32} {a2 : Int32} {a3 : Int32} {a4 : Int32} {a5 : Int32} (hR : h.2.2 = gRF lk sp cd) (hlk : lk = 30 ∨ lk = 67) (hsp : sp = 30 ∨ sp = 67)  (vc : ((((h.1 82 1) + 20) ≤ 1600 → gg p l e s m args below meth c G d MX12_feed Q 28 [some (.ref 82), some (.int a1), some (.int a2), some (.int a3), some (.int a4), some (.int a5), some (.int 0), none] [] h) ∧ (¬ ((h.1 82 1) + 20) ≤ 1600 → Q (some (.int (-1))) (sI h 84 0 ((h.1 84 0) + 1))))) : gg p l e s m args below meth c G d MX12_feed Q 0 [some (.ref 82), some (.int a1), some (.int a2), some (.int a3), some (.int a4), some (.int a5), none, none] [] h := by
  refine go_aload_n (x := 82) dX12_feed_0 rfl ?_
  refine go_getI' (v := (h.1 82 1)) dX12_feed_1 f12_275 sh82 (fun _ _ => rfl) rfl ?_
  refine go_bipush (v := 20) dX12_feed_4 rfl ?_
  refine go_iadd dX12_feed_6 ?_
  refine go_sipush (v := 1600) dX12_feed_7 rfl ?_
  refine go_icmp_le 25 dX12_feed_10 rfl (fun q => ?_) (fun q => ?_)
  · replace vc := vc.1 q
    refine go_iconst (v := 0) dX12_feed_25 rfl ?_
    refine go_istore dX12_feed_26 (Nat.le_of_ble_eq_true rfl) ?_
    show gg p l e s m args below meth c G d MX12_feed Q 28 [some (.ref 82), some (.int a1), some (.int a2), some (.int a3), some (.int a4), some (.int a5), some (.int 0), none] [] h
    exact vc
  · replace vc := vc.2 q
    refine go_aload_n (x := 82) dX12_feed_13 rfl ?_
    refine go_getR (x := 84) dX12_feed_14 f12_17 sh82 (fun _ _ => rfl) (rf82_9 hR) ?_
    refine go_iconst (v := 0) dX12_feed_17 rfl ?_
    refine go_dup2 dX12_feed_18 rfl rfl ?_
    refine go_iald' (v := (h.1 84 0)) dX12_feed_19 sh84 (by unfold vp_in; decide) rfl ?_
    refine go_iconst (v := 1) dX12_feed_20 rfl ?_
    refine go_iadd dX12_feed_21 ?_
    refine go_iast dX12_feed_22 sh84 (by unfold vp_in; decide) ?_
    refine go_iconst (v := (-1)) dX12_feed_23 rfl ?_
    exact go_iret dX12_feed_24 rfl vc rfl (Nat.le_refl _) (Nat.le_refl _)
set_option maxRecDepth 20000 in
theorem wX12_feed_28 {p : Program} {l : Launch} {e : Env} {s : State} {m : MethodId} {args : Array Value} {below : List Frame} {meth : Method} {c : Code} {G : gG} {d : Nat} {Q : Option Value → gH → Prop} {h : gH} {lk sp : Nat} {cd : Option Nat} {x1 : Int32} {x2 : Int32} {x3 : Int32} {x4 : Int32} {x5 : Int32} {x6 : Int32} (hR : h.2.2 = gRF lk sp cd) (hlk : lk = 30 ∨ lk = 67) (hsp : sp = 30 ∨ sp = 67)  (vc : ((20 ≤ x6 → Q (some (.int (h.1 82 1))) h) ∧ (¬ 20 ≤ x6 → ((4 ≤ x6 → ((8 ≤ x6 → ((12 ≤ x6 → ((16 ≤ x6 → (vp_in ((h.1 82 1)) 1600 ∧ gg p l e s m args below meth c G d MX12_feed Q 28 [some (.ref 82), some (.int x1), some (.int x2), some (.int x3), some (.int x4), some (.int x5), some (.int (x6 + 1)), none] [] (sI (sI h 83 ((h.1 82 1) : Int32).toNatClampNeg ((x5 >>> ((8 * (3 - (x6 - x6 / 4 * 4))) &&& 31)) &&& 255)) 82 1 ((h.1 82 1) + 1)))) ∧ (¬ 16 ≤ x6 → (vp_in ((h.1 82 1)) 1600 ∧ gg p l e s m args below meth c G d MX12_feed Q 28 [some (.ref 82), some (.int x1), some (.int x2), some (.int x3), some (.int x4), some (.int x5), some (.int (x6 + 1)), none] [] (sI (sI h 83 ((h.1 82 1) : Int32).toNatClampNeg ((x4 >>> ((8 * (3 - (x6 - x6 / 4 * 4))) &&& 31)) &&& 255)) 82 1 ((h.1 82 1) + 1)))))) ∧ (¬ 12 ≤ x6 → (vp_in ((h.1 82 1)) 1600 ∧ gg p l e s m args below meth c G d MX12_feed Q 28 [some (.ref 82), some (.int x1), some (.int x2), some (.int x3), some (.int x4), some (.int x5), some (.int (x6 + 1)), none] [] (sI (sI h 83 ((h.1 82 1) : Int32).toNatClampNeg ((x3 >>> ((8 * (3 - (x6 - x6 / 4 * 4))) &&& 31)) &&& 255)) 82 1 ((h.1 82 1) + 1)))))) ∧ (¬ 8 ≤ x6 → (vp_in ((h.1 82 1)) 1600 ∧ gg p l e s m args below meth c G d MX12_feed Q 28 [some (.ref 82), some (.int x1), some (.int x2), some (.int x3), some (.int x4), some (.int x5), some (.int (x6 + 1)), none] [] (sI (sI h 83 ((h.1 82 1) : Int32).toNatClampNeg ((x2 >>> ((8 * (3 - (x6 - x6 / 4 * 4))) &&& 31)) &&& 255)) 82 1 ((h.1 82 1) + 1)))))) ∧ (¬ 4 ≤ x6 → (vp_in ((h.1 82 1)) 1600 ∧ gg p l e s m args below meth c G d MX12_feed Q 28 [some (.ref 82), some (.int x1), some (.int x2), some (.int x3), some (.int x4), some (.int x5), some (.int (x6 + 1)), none] [] (sI (sI h 83 ((h.1 82 1) : Int32).toNatClampNeg ((x1 >>> ((8 * (3 - (x6 - x6 / 4 * 4))) &&& 31)) &&& 255)) 82 1 ((h.1 82 1) + 1)))))))) : gg p l e s m args below meth c G d MX12_feed Q 28 [some (.ref 82), some (.int x1), some (.int x2), some (.int x3), some (.int x4), some (.int x5), some (.int x6), none] [] h := by
  refine go_iload (x := x6) dX12_feed_28 rfl ?_
  refine go_bipush (v := 20) dX12_feed_30 rfl ?_
  refine go_icmp_ge 124 dX12_feed_32 rfl (fun q => ?_) (fun q => ?_)
  · replace vc := vc.1 q
    refine go_aload_n (x := 82) dX12_feed_124 rfl ?_
    refine go_getI' (v := (h.1 82 1)) dX12_feed_125 f12_275 sh82 (fun _ _ => rfl) rfl ?_
    exact go_iret dX12_feed_128 rfl vc rfl (Nat.le_refl _) (Nat.le_refl _)
  · replace vc := vc.2 q
    refine go_iload (x := x6) dX12_feed_35 rfl ?_
    refine go_iconst (v := 4) dX12_feed_37 rfl ?_
    refine go_icmp_ge 45 dX12_feed_38 rfl (fun q => ?_) (fun q => ?_)
    · replace vc := vc.1 q
      refine go_iload (x := x6) dX12_feed_45 rfl ?_
      refine go_bipush (v := 8) dX12_feed_47 rfl ?_
      refine go_icmp_ge 56 dX12_feed_49 rfl (fun q => ?_) (fun q => ?_)
      · replace vc := vc.1 q
        refine go_iload (x := x6) dX12_feed_56 rfl ?_
        refine go_bipush (v := 12) dX12_feed_58 rfl ?_
        refine go_icmp_ge 67 dX12_feed_60 rfl (fun q => ?_) (fun q => ?_)
        · replace vc := vc.1 q
          refine go_iload (x := x6) dX12_feed_67 rfl ?_
          refine go_bipush (v := 16) dX12_feed_69 rfl ?_
          refine go_icmp_ge 79 dX12_feed_71 rfl (fun q => ?_) (fun q => ?_)
          · replace vc := vc.1 q
            refine go_iload (x := x5) dX12_feed_79 rfl ?_
            refine go_istore dX12_feed_81 (Nat.le_of_ble_eq_true rfl) ?_
            show gg p l e s m args below meth c G d MX12_feed Q 83 [some (.ref 82), some (.int x1), some (.int x2), some (.int x3), some (.int x4), some (.int x5), some (.int x6), some (.int x5)] [] h
            refine go_aload_n (x := 82) dX12_feed_83 rfl ?_
            refine go_getR (x := 83) dX12_feed_84 f12_7 sh82 (fun _ _ => rfl) (rf82_0 hR) ?_
            refine go_aload_n (x := 82) dX12_feed_87 rfl ?_
            refine go_getI' (v := (h.1 82 1)) dX12_feed_88 f12_275 sh82 (fun _ _ => rfl) rfl ?_
            refine go_iload (x := x5) dX12_feed_91 rfl ?_
            refine go_bipush (v := 8) dX12_feed_93 rfl ?_
            refine go_iconst (v := 3) dX12_feed_95 rfl ?_
            refine go_iload (x := x6) dX12_feed_96 rfl ?_
            refine go_iconst (v := 4) dX12_feed_98 rfl ?_
            refine go_irem dX12_feed_99 (by decide) ?_
            refine go_isub dX12_feed_100 ?_
            refine go_imul dX12_feed_101 ?_
            refine go_ishr dX12_feed_102 ?_
            refine go_sipush (v := 255) dX12_feed_103 rfl ?_
            refine go_iand dX12_feed_106 ?_
            refine go_iast dX12_feed_107 sh83 vc.1 ?_
            have vc := vc.2
            show gg p l e s m args below meth c G d MX12_feed Q 108 [some (.ref 82), some (.int x1), some (.int x2), some (.int x3), some (.int x4), some (.int x5), some (.int x6), some (.int x5)] [] (sI h 83 ((h.1 82 1) : Int32).toNatClampNeg ((x5 >>> ((8 * (3 - (x6 - x6 / 4 * 4))) &&& 31)) &&& 255))
            refine go_aload_n (x := 82) dX12_feed_108 rfl ?_
            refine go_dup dX12_feed_109 rfl ?_
            refine go_getI' (v := (h.1 82 1)) dX12_feed_110 f12_275 sh82 (fun _ _ => rfl) rfl ?_
            refine go_iconst (v := 1) dX12_feed_113 rfl ?_
            refine go_iadd dX12_feed_114 ?_
            refine go_putI dX12_feed_115 f12_275 sh82 rfl rfl ?_
            refine go_iinc (x := x6) dX12_feed_118 rfl ?_
            show gg p l e s m args below meth c G d MX12_feed Q 121 [some (.ref 82), some (.int x1), some (.int x2), some (.int x3), some (.int x4), some (.int x5), some (.int (x6 + 1)), some (.int x5)] [] (sI (sI h 83 ((h.1 82 1) : Int32).toNatClampNeg ((x5 >>> ((8 * (3 - (x6 - x6 / 4 * 4))) &&& 31)) &&& 255)) 82 1 ((h.1 82 1) + 1))
            refine go_goto 28 dX12_feed_121 rfl ?_
            refine go_weak (ls' := [some (.ref 82), some (.int x1), some (.int x2), some (.int x3), some (.int x4), some (.int x5), some (.int (x6 + 1)), none]) ?_ vc
            exact (⟨rfl, ⟨rfl, ⟨rfl, ⟨rfl, ⟨rfl, ⟨rfl, ⟨rfl, trivial⟩⟩⟩⟩⟩⟩⟩)
          · replace vc := vc.2 q
            refine go_iload (x := x4) dX12_feed_74 rfl ?_
            refine go_goto 81 dX12_feed_76 rfl ?_
            refine go_istore dX12_feed_81 (Nat.le_of_ble_eq_true rfl) ?_
            show gg p l e s m args below meth c G d MX12_feed Q 83 [some (.ref 82), some (.int x1), some (.int x2), some (.int x3), some (.int x4), some (.int x5), some (.int x6), some (.int x4)] [] h
            refine go_aload_n (x := 82) dX12_feed_83 rfl ?_
            refine go_getR (x := 83) dX12_feed_84 f12_7 sh82 (fun _ _ => rfl) (rf82_0 hR) ?_
            refine go_aload_n (x := 82) dX12_feed_87 rfl ?_
            refine go_getI' (v := (h.1 82 1)) dX12_feed_88 f12_275 sh82 (fun _ _ => rfl) rfl ?_
            refine go_iload (x := x4) dX12_feed_91 rfl ?_
            refine go_bipush (v := 8) dX12_feed_93 rfl ?_
            refine go_iconst (v := 3) dX12_feed_95 rfl ?_
            refine go_iload (x := x6) dX12_feed_96 rfl ?_
            refine go_iconst (v := 4) dX12_feed_98 rfl ?_
            refine go_irem dX12_feed_99 (by decide) ?_
            refine go_isub dX12_feed_100 ?_
            refine go_imul dX12_feed_101 ?_
            refine go_ishr dX12_feed_102 ?_
            refine go_sipush (v := 255) dX12_feed_103 rfl ?_
            refine go_iand dX12_feed_106 ?_
            refine go_iast dX12_feed_107 sh83 vc.1 ?_
            have vc := vc.2
            show gg p l e s m args below meth c G d MX12_feed Q 108 [some (.ref 82), some (.int x1), some (.int x2), some (.int x3), some (.int x4), some (.int x5), some (.int x6), some (.int x4)] [] (sI h 83 ((h.1 82 1) : Int32).toNatClampNeg ((x4 >>> ((8 * (3 - (x6 - x6 / 4 * 4))) &&& 31)) &&& 255))
            refine go_aload_n (x := 82) dX12_feed_108 rfl ?_
            refine go_dup dX12_feed_109 rfl ?_
            refine go_getI' (v := (h.1 82 1)) dX12_feed_110 f12_275 sh82 (fun _ _ => rfl) rfl ?_
            refine go_iconst (v := 1) dX12_feed_113 rfl ?_
            refine go_iadd dX12_feed_114 ?_
            refine go_putI dX12_feed_115 f12_275 sh82 rfl rfl ?_
            refine go_iinc (x := x6) dX12_feed_118 rfl ?_
            show gg p l e s m args below meth c G d MX12_feed Q 121 [some (.ref 82), some (.int x1), some (.int x2), some (.int x3), some (.int x4), some (.int x5), some (.int (x6 + 1)), some (.int x4)] [] (sI (sI h 83 ((h.1 82 1) : Int32).toNatClampNeg ((x4 >>> ((8 * (3 - (x6 - x6 / 4 * 4))) &&& 31)) &&& 255)) 82 1 ((h.1 82 1) + 1))
            refine go_goto 28 dX12_feed_121 rfl ?_
            refine go_weak (ls' := [some (.ref 82), some (.int x1), some (.int x2), some (.int x3), some (.int x4), some (.int x5), some (.int (x6 + 1)), none]) ?_ vc
            exact (⟨rfl, ⟨rfl, ⟨rfl, ⟨rfl, ⟨rfl, ⟨rfl, ⟨rfl, trivial⟩⟩⟩⟩⟩⟩⟩)
        · replace vc := vc.2 q
          refine go_iload_n (x := x3) dX12_feed_63 rfl ?_
          refine go_goto 81 dX12_feed_64 rfl ?_
          refine go_istore dX12_feed_81 (Nat.le_of_ble_eq_true rfl) ?_
          show gg p l e s m args below meth c G d MX12_feed Q 83 [some (.ref 82), some (.int x1), some (.int x2), some (.int x3), some (.int x4), some (.int x5), some (.int x6), some (.int x3)] [] h
          refine go_aload_n (x := 82) dX12_feed_83 rfl ?_
          refine go_getR (x := 83) dX12_feed_84 f12_7 sh82 (fun _ _ => rfl) (rf82_0 hR) ?_
          refine go_aload_n (x := 82) dX12_feed_87 rfl ?_
          refine go_getI' (v := (h.1 82 1)) dX12_feed_88 f12_275 sh82 (fun _ _ => rfl) rfl ?_
          refine go_iload (x := x3) dX12_feed_91 rfl ?_
          refine go_bipush (v := 8) dX12_feed_93 rfl ?_
          refine go_iconst (v := 3) dX12_feed_95 rfl ?_
          refine go_iload (x := x6) dX12_feed_96 rfl ?_
          refine go_iconst (v := 4) dX12_feed_98 rfl ?_
          refine go_irem dX12_feed_99 (by decide) ?_
          refine go_isub dX12_feed_100 ?_
          refine go_imul dX12_feed_101 ?_
          refine go_ishr dX12_feed_102 ?_
          refine go_sipush (v := 255) dX12_feed_103 rfl ?_
          refine go_iand dX12_feed_106 ?_
          refine go_iast dX12_feed_107 sh83 vc.1 ?_
          have vc := vc.2
          show gg p l e s m args below meth c G d MX12_feed Q 108 [some (.ref 82), some (.int x1), some (.int x2), some (.int x3), some (.int x4), some (.int x5), some (.int x6), some (.int x3)] [] (sI h 83 ((h.1 82 1) : Int32).toNatClampNeg ((x3 >>> ((8 * (3 - (x6 - x6 / 4 * 4))) &&& 31)) &&& 255))
          refine go_aload_n (x := 82) dX12_feed_108 rfl ?_
          refine go_dup dX12_feed_109 rfl ?_
          refine go_getI' (v := (h.1 82 1)) dX12_feed_110 f12_275 sh82 (fun _ _ => rfl) rfl ?_
          refine go_iconst (v := 1) dX12_feed_113 rfl ?_
          refine go_iadd dX12_feed_114 ?_
          refine go_putI dX12_feed_115 f12_275 sh82 rfl rfl ?_
          refine go_iinc (x := x6) dX12_feed_118 rfl ?_
          show gg p l e s m args below meth c G d MX12_feed Q 121 [some (.ref 82), some (.int x1), some (.int x2), some (.int x3), some (.int x4), some (.int x5), some (.int (x6 + 1)), some (.int x3)] [] (sI (sI h 83 ((h.1 82 1) : Int32).toNatClampNeg ((x3 >>> ((8 * (3 - (x6 - x6 / 4 * 4))) &&& 31)) &&& 255)) 82 1 ((h.1 82 1) + 1))
          refine go_goto 28 dX12_feed_121 rfl ?_
          refine go_weak (ls' := [some (.ref 82), some (.int x1), some (.int x2), some (.int x3), some (.int x4), some (.int x5), some (.int (x6 + 1)), none]) ?_ vc
          exact (⟨rfl, ⟨rfl, ⟨rfl, ⟨rfl, ⟨rfl, ⟨rfl, ⟨rfl, trivial⟩⟩⟩⟩⟩⟩⟩)
      · replace vc := vc.2 q
        refine go_iload_n (x := x2) dX12_feed_52 rfl ?_
        refine go_goto 81 dX12_feed_53 rfl ?_
        refine go_istore dX12_feed_81 (Nat.le_of_ble_eq_true rfl) ?_
        show gg p l e s m args below meth c G d MX12_feed Q 83 [some (.ref 82), some (.int x1), some (.int x2), some (.int x3), some (.int x4), some (.int x5), some (.int x6), some (.int x2)] [] h
        refine go_aload_n (x := 82) dX12_feed_83 rfl ?_
        refine go_getR (x := 83) dX12_feed_84 f12_7 sh82 (fun _ _ => rfl) (rf82_0 hR) ?_
        refine go_aload_n (x := 82) dX12_feed_87 rfl ?_
        refine go_getI' (v := (h.1 82 1)) dX12_feed_88 f12_275 sh82 (fun _ _ => rfl) rfl ?_
        refine go_iload (x := x2) dX12_feed_91 rfl ?_
        refine go_bipush (v := 8) dX12_feed_93 rfl ?_
        refine go_iconst (v := 3) dX12_feed_95 rfl ?_
        refine go_iload (x := x6) dX12_feed_96 rfl ?_
        refine go_iconst (v := 4) dX12_feed_98 rfl ?_
        refine go_irem dX12_feed_99 (by decide) ?_
        refine go_isub dX12_feed_100 ?_
        refine go_imul dX12_feed_101 ?_
        refine go_ishr dX12_feed_102 ?_
        refine go_sipush (v := 255) dX12_feed_103 rfl ?_
        refine go_iand dX12_feed_106 ?_
        refine go_iast dX12_feed_107 sh83 vc.1 ?_
        have vc := vc.2
        show gg p l e s m args below meth c G d MX12_feed Q 108 [some (.ref 82), some (.int x1), some (.int x2), some (.int x3), some (.int x4), some (.int x5), some (.int x6), some (.int x2)] [] (sI h 83 ((h.1 82 1) : Int32).toNatClampNeg ((x2 >>> ((8 * (3 - (x6 - x6 / 4 * 4))) &&& 31)) &&& 255))
        refine go_aload_n (x := 82) dX12_feed_108 rfl ?_
        refine go_dup dX12_feed_109 rfl ?_
        refine go_getI' (v := (h.1 82 1)) dX12_feed_110 f12_275 sh82 (fun _ _ => rfl) rfl ?_
        refine go_iconst (v := 1) dX12_feed_113 rfl ?_
        refine go_iadd dX12_feed_114 ?_
        refine go_putI dX12_feed_115 f12_275 sh82 rfl rfl ?_
        refine go_iinc (x := x6) dX12_feed_118 rfl ?_
        show gg p l e s m args below meth c G d MX12_feed Q 121 [some (.ref 82), some (.int x1), some (.int x2), some (.int x3), some (.int x4), some (.int x5), some (.int (x6 + 1)), some (.int x2)] [] (sI (sI h 83 ((h.1 82 1) : Int32).toNatClampNeg ((x2 >>> ((8 * (3 - (x6 - x6 / 4 * 4))) &&& 31)) &&& 255)) 82 1 ((h.1 82 1) + 1))
        refine go_goto 28 dX12_feed_121 rfl ?_
        refine go_weak (ls' := [some (.ref 82), some (.int x1), some (.int x2), some (.int x3), some (.int x4), some (.int x5), some (.int (x6 + 1)), none]) ?_ vc
        exact (⟨rfl, ⟨rfl, ⟨rfl, ⟨rfl, ⟨rfl, ⟨rfl, ⟨rfl, trivial⟩⟩⟩⟩⟩⟩⟩)
    · replace vc := vc.2 q
      refine go_iload_n (x := x1) dX12_feed_41 rfl ?_
      refine go_goto 81 dX12_feed_42 rfl ?_
      refine go_istore dX12_feed_81 (Nat.le_of_ble_eq_true rfl) ?_
      show gg p l e s m args below meth c G d MX12_feed Q 83 [some (.ref 82), some (.int x1), some (.int x2), some (.int x3), some (.int x4), some (.int x5), some (.int x6), some (.int x1)] [] h
      refine go_aload_n (x := 82) dX12_feed_83 rfl ?_
      refine go_getR (x := 83) dX12_feed_84 f12_7 sh82 (fun _ _ => rfl) (rf82_0 hR) ?_
      refine go_aload_n (x := 82) dX12_feed_87 rfl ?_
      refine go_getI' (v := (h.1 82 1)) dX12_feed_88 f12_275 sh82 (fun _ _ => rfl) rfl ?_
      refine go_iload (x := x1) dX12_feed_91 rfl ?_
      refine go_bipush (v := 8) dX12_feed_93 rfl ?_
      refine go_iconst (v := 3) dX12_feed_95 rfl ?_
      refine go_iload (x := x6) dX12_feed_96 rfl ?_
      refine go_iconst (v := 4) dX12_feed_98 rfl ?_
      refine go_irem dX12_feed_99 (by decide) ?_
      refine go_isub dX12_feed_100 ?_
      refine go_imul dX12_feed_101 ?_
      refine go_ishr dX12_feed_102 ?_
      refine go_sipush (v := 255) dX12_feed_103 rfl ?_
      refine go_iand dX12_feed_106 ?_
      refine go_iast dX12_feed_107 sh83 vc.1 ?_
      have vc := vc.2
      show gg p l e s m args below meth c G d MX12_feed Q 108 [some (.ref 82), some (.int x1), some (.int x2), some (.int x3), some (.int x4), some (.int x5), some (.int x6), some (.int x1)] [] (sI h 83 ((h.1 82 1) : Int32).toNatClampNeg ((x1 >>> ((8 * (3 - (x6 - x6 / 4 * 4))) &&& 31)) &&& 255))
      refine go_aload_n (x := 82) dX12_feed_108 rfl ?_
      refine go_dup dX12_feed_109 rfl ?_
      refine go_getI' (v := (h.1 82 1)) dX12_feed_110 f12_275 sh82 (fun _ _ => rfl) rfl ?_
      refine go_iconst (v := 1) dX12_feed_113 rfl ?_
      refine go_iadd dX12_feed_114 ?_
      refine go_putI dX12_feed_115 f12_275 sh82 rfl rfl ?_
      refine go_iinc (x := x6) dX12_feed_118 rfl ?_
      show gg p l e s m args below meth c G d MX12_feed Q 121 [some (.ref 82), some (.int x1), some (.int x2), some (.int x3), some (.int x4), some (.int x5), some (.int (x6 + 1)), some (.int x1)] [] (sI (sI h 83 ((h.1 82 1) : Int32).toNatClampNeg ((x1 >>> ((8 * (3 - (x6 - x6 / 4 * 4))) &&& 31)) &&& 255)) 82 1 ((h.1 82 1) + 1))
      refine go_goto 28 dX12_feed_121 rfl ?_
      refine go_weak (ls' := [some (.ref 82), some (.int x1), some (.int x2), some (.int x3), some (.int x4), some (.int x5), some (.int (x6 + 1)), none]) ?_ vc
      exact (⟨rfl, ⟨rfl, ⟨rfl, ⟨rfl, ⟨rfl, ⟨rfl, ⟨rfl, trivial⟩⟩⟩⟩⟩⟩⟩)
set_option maxRecDepth 20000 in
theorem wX12_end_0 {p : Program} {l : Launch} {e : Env} {s : State} {m : MethodId} {args : Array Value} {below : List Frame} {meth : Method} {c : Code} {G : gG} {d : Nat} {Q : Option Value → gH → Prop} {h : gH} {lk sp : Nat} {cd : Option Nat} {a1 : Int32} (hR : h.2.2 = gRF lk sp cd) (hlk : lk = 30 ∨ lk = 67) (hsp : sp = 30 ∨ sp = 67)  (vc : ((a1 < 0 → Q (some (.int 0)) (sI h 84 0 ((h.1 84 0) + 1))) ∧ (¬ a1 < 0 → ((a1 ≤ (h.1 82 1) → Q (some (.int 1)) (sI h 82 1 a1)) ∧ (¬ a1 ≤ (h.1 82 1) → Q (some (.int 0)) (sI h 84 0 ((h.1 84 0) + 1))))))) : gg p l e s m args below meth c G d MX12_end Q 0 [some (.ref 82), some (.int a1)] [] h := by
  refine go_iload_n (x := a1) dX12_end_0 rfl ?_
  refine go_if_lt 12 dX12_end_1 rfl (fun q => ?_) (fun q => ?_)
  · replace vc := vc.1 q
    refine go_aload_n (x := 82) dX12_end_12 rfl ?_
    refine go_getR (x := 84) dX12_end_13 f12_17 sh82 (fun _ _ => rfl) (rf82_9 hR) ?_
    refine go_iconst (v := 0) dX12_end_16 rfl ?_
    refine go_dup2 dX12_end_17 rfl rfl ?_
    refine go_iald' (v := (h.1 84 0)) dX12_end_18 sh84 (by unfold vp_in; decide) rfl ?_
    refine go_iconst (v := 1) dX12_end_19 rfl ?_
    refine go_iadd dX12_end_20 ?_
    refine go_iast dX12_end_21 sh84 (by unfold vp_in; decide) ?_
    refine go_iconst (v := 0) dX12_end_22 rfl ?_
    exact go_zret dX12_end_23 rfl (by decide) vc rfl (Nat.le_refl _) (Nat.le_refl _)
  · replace vc := vc.2 q
    refine go_iload_n (x := a1) dX12_end_4 rfl ?_
    refine go_aload_n (x := 82) dX12_end_5 rfl ?_
    refine go_getI' (v := (h.1 82 1)) dX12_end_6 f12_275 sh82 (fun _ _ => rfl) rfl ?_
    refine go_icmp_le 24 dX12_end_9 rfl (fun q => ?_) (fun q => ?_)
    · replace vc := vc.1 q
      refine go_aload_n (x := 82) dX12_end_24 rfl ?_
      refine go_iload_n (x := a1) dX12_end_25 rfl ?_
      refine go_putI dX12_end_26 f12_275 sh82 rfl rfl ?_
      refine go_iconst (v := 1) dX12_end_29 rfl ?_
      exact go_zret dX12_end_30 rfl (by decide) vc rfl (Nat.le_refl _) (Nat.le_refl _)
    · replace vc := vc.2 q
      refine go_aload_n (x := 82) dX12_end_12 rfl ?_
      refine go_getR (x := 84) dX12_end_13 f12_17 sh82 (fun _ _ => rfl) (rf82_9 hR) ?_
      refine go_iconst (v := 0) dX12_end_16 rfl ?_
      refine go_dup2 dX12_end_17 rfl rfl ?_
      refine go_iald' (v := (h.1 84 0)) dX12_end_18 sh84 (by unfold vp_in; decide) rfl ?_
      refine go_iconst (v := 1) dX12_end_19 rfl ?_
      refine go_iadd dX12_end_20 ?_
      refine go_iast dX12_end_21 sh84 (by unfold vp_in; decide) ?_
      refine go_iconst (v := 0) dX12_end_22 rfl ?_
      exact go_zret dX12_end_23 rfl (by decide) vc rfl (Nat.le_refl _) (Nat.le_refl _)
set_option maxRecDepth 20000 in
theorem wX12_fail_0 {p : Program} {l : Launch} {e : Env} {s : State} {m : MethodId} {args : Array Value} {below : List Frame} {meth : Method} {c : Code} {G : gG} {d : Nat} {Q : Option Value → gH → Prop} {h : gH} {lk sp : Nat} {cd : Option Nat} {a1 : Int32} {a2 : Int32} (hR : h.2.2 = gRF lk sp cd) (hlk : lk = 30 ∨ lk = 67) (hsp : sp = 30 ∨ sp = 67)  (vc : (((h.1 82 5) = 0 → Q none (sI (sI h 82 5 a1) 82 6 a2)) ∧ (¬ (h.1 82 5) = 0 → Q none h))) : gg p l e s m args below meth c G d MX12_fail Q 0 [some (.ref 82), some (.int a1), some (.int a2)] [] h := by
  refine go_aload_n (x := 82) dX12_fail_0 rfl ?_
  refine go_getI' (v := (h.1 82 5)) dX12_fail_1 f12_278 sh82 (fun _ _ => rfl) rfl ?_
  refine go_if_eq 8 dX12_fail_4 rfl (fun q => ?_) (fun q => ?_)
  · replace vc := vc.1 q
    refine go_aload_n (x := 82) dX12_fail_8 rfl ?_
    refine go_iload_n (x := a1) dX12_fail_9 rfl ?_
    refine go_putI dX12_fail_10 f12_278 sh82 rfl rfl ?_
    refine go_aload_n (x := 82) dX12_fail_13 rfl ?_
    refine go_iload_n (x := a2) dX12_fail_14 rfl ?_
    refine go_putI dX12_fail_15 f12_281 sh82 rfl rfl ?_
    exact go_vret dX12_fail_18 rfl vc rfl (Nat.le_refl _) (Nat.le_refl _)
  · replace vc := vc.2 q
    exact go_vret dX12_fail_7 rfl vc rfl (Nat.le_refl _) (Nat.le_refl _)
set_option maxRecDepth 20000 in
theorem wX12_isLetter_0 {p : Program} {l : Launch} {e : Env} {s : State} {m : MethodId} {args : Array Value} {below : List Frame} {meth : Method} {c : Code} {G : gG} {d : Nat} {Q : Option Value → gH → Prop} {h : gH} {lk sp : Nat} {cd : Option Nat} {a1 : Int32} (hR : h.2.2 = gRF lk sp cd) (hlk : lk = 30 ∨ lk = 67) (hsp : sp = 30 ∨ sp = 67)  (vc : ((a1 < 97 → Q (some (.int 0)) h) ∧ (¬ a1 < 97 → ((122 < a1 → Q (some (.int 0)) h) ∧ (¬ 122 < a1 → Q (some (.int 1)) h))))) : gg p l e s m args below meth c G d MX12_isLetter Q 0 [some (.int a1)] [] h := by
  refine go_iload_n (x := a1) dX12_isLetter_0 rfl ?_
  refine go_bipush (v := 97) dX12_isLetter_1 rfl ?_
  refine go_icmp_lt 16 dX12_isLetter_3 rfl (fun q => ?_) (fun q => ?_)
  · replace vc := vc.1 q
    refine go_iconst (v := 0) dX12_isLetter_16 rfl ?_
    exact go_zret dX12_isLetter_17 rfl (by decide) vc rfl (Nat.le_refl _) (Nat.le_refl _)
  · replace vc := vc.2 q
    refine go_iload_n (x := a1) dX12_isLetter_6 rfl ?_
    refine go_bipush (v := 122) dX12_isLetter_7 rfl ?_
    refine go_icmp_gt 16 dX12_isLetter_9 rfl (fun q => ?_) (fun q => ?_)
    · replace vc := vc.1 q
      refine go_iconst (v := 0) dX12_isLetter_16 rfl ?_
      exact go_zret dX12_isLetter_17 rfl (by decide) vc rfl (Nat.le_refl _) (Nat.le_refl _)
    · replace vc := vc.2 q
      refine go_iconst (v := 1) dX12_isLetter_12 rfl ?_
      refine go_goto 17 dX12_isLetter_13 rfl ?_
      exact go_zret dX12_isLetter_17 rfl (by decide) vc rfl (Nat.le_refl _) (Nat.le_refl _)
set_option maxRecDepth 20000 in
theorem wX12_isDigit_0 {p : Program} {l : Launch} {e : Env} {s : State} {m : MethodId} {args : Array Value} {below : List Frame} {meth : Method} {c : Code} {G : gG} {d : Nat} {Q : Option Value → gH → Prop} {h : gH} {lk sp : Nat} {cd : Option Nat} {a1 : Int32} (hR : h.2.2 = gRF lk sp cd) (hlk : lk = 30 ∨ lk = 67) (hsp : sp = 30 ∨ sp = 67)  (vc : ((a1 < 48 → Q (some (.int 0)) h) ∧ (¬ a1 < 48 → ((57 < a1 → Q (some (.int 0)) h) ∧ (¬ 57 < a1 → Q (some (.int 1)) h))))) : gg p l e s m args below meth c G d MX12_isDigit Q 0 [some (.int a1)] [] h := by
  refine go_iload_n (x := a1) dX12_isDigit_0 rfl ?_
  refine go_bipush (v := 48) dX12_isDigit_1 rfl ?_
  refine go_icmp_lt 16 dX12_isDigit_3 rfl (fun q => ?_) (fun q => ?_)
  · replace vc := vc.1 q
    refine go_iconst (v := 0) dX12_isDigit_16 rfl ?_
    exact go_zret dX12_isDigit_17 rfl (by decide) vc rfl (Nat.le_refl _) (Nat.le_refl _)
  · replace vc := vc.2 q
    refine go_iload_n (x := a1) dX12_isDigit_6 rfl ?_
    refine go_bipush (v := 57) dX12_isDigit_7 rfl ?_
    refine go_icmp_gt 16 dX12_isDigit_9 rfl (fun q => ?_) (fun q => ?_)
    · replace vc := vc.1 q
      refine go_iconst (v := 0) dX12_isDigit_16 rfl ?_
      exact go_zret dX12_isDigit_17 rfl (by decide) vc rfl (Nat.le_refl _) (Nat.le_refl _)
    · replace vc := vc.2 q
      refine go_iconst (v := 1) dX12_isDigit_12 rfl ?_
      refine go_goto 17 dX12_isDigit_13 rfl ?_
      exact go_zret dX12_isDigit_17 rfl (by decide) vc rfl (Nat.le_refl _) (Nat.le_refl _)
set_option maxRecDepth 20000 in
theorem wX12_look_0 {p : Program} {l : Launch} {e : Env} {s : State} {m : MethodId} {args : Array Value} {below : List Frame} {meth : Method} {c : Code} {G : gG} {d : Nat} {Q : Option Value → gH → Prop} {h : gH} {lk sp : Nat} {cd : Option Nat}  (hR : h.2.2 = gRF lk sp cd) (hlk : lk = 30 ∨ lk = 67) (hsp : sp = 30 ∨ sp = 67)  (vc : (((h.1 82 3) ≤ (h.1 82 2) → (((h.1 82 3) ≤ (h.1 82 2) → Q (some (.int (-1))) h) ∧ (¬ (h.1 82 3) ≤ (h.1 82 2) → (vp_in ((h.1 82 2)) 1600 ∧ Q (some (.int (h.1 83 ((h.1 82 2) : Int32).toNatClampNeg))) h)))) ∧ (¬ (h.1 82 3) ≤ (h.1 82 2) → (vp_in ((h.1 82 2)) 1600 ∧ (((h.1 83 ((h.1 82 2) : Int32).toNatClampNeg) = 10 → gg p l e s m args below meth c G d MX12_look Q 0 [some (.ref 82)] [] (sI h 82 2 ((h.1 82 2) + 1))) ∧ (¬ (h.1 83 ((h.1 82 2) : Int32).toNatClampNeg) = 10 → (vp_in ((h.1 82 2)) 1600 ∧ ((¬ (h.1 83 ((h.1 82 2) : Int32).toNatClampNeg) = 32 → (((h.1 82 3) ≤ (h.1 82 2) → Q (some (.int (-1))) h) ∧ (¬ (h.1 82 3) ≤ (h.1 82 2) → (vp_in ((h.1 82 2)) 1600 ∧ Q (some (.int (h.1 83 ((h.1 82 2) : Int32).toNatClampNeg))) h)))) ∧ ((h.1 83 ((h.1 82 2) : Int32).toNatClampNeg) = 32 → gg p l e s m args below meth c G d MX12_look Q 0 [some (.ref 82)] [] (sI h 82 2 ((h.1 82 2) + 1))))))))))) : gg p l e s m args below meth c G d MX12_look Q 0 [some (.ref 82)] [] h := by
  refine go_aload_n (x := 82) dX12_look_0 rfl ?_
  refine go_getI' (v := (h.1 82 2)) dX12_look_1 f12_284 sh82 (fun _ _ => rfl) rfl ?_
  refine go_aload_n (x := 82) dX12_look_4 rfl ?_
  refine go_getI' (v := (h.1 82 3)) dX12_look_5 f12_287 sh82 (fun _ _ => rfl) rfl ?_
  refine go_icmp_ge 52 dX12_look_8 rfl (fun q => ?_) (fun q => ?_)
  · replace vc := vc.1 q
    refine go_aload_n (x := 82) dX12_look_52 rfl ?_
    refine go_getI' (v := (h.1 82 2)) dX12_look_53 f12_284 sh82 (fun _ _ => rfl) rfl ?_
    refine go_aload_n (x := 82) dX12_look_56 rfl ?_
    refine go_getI' (v := (h.1 82 3)) dX12_look_57 f12_287 sh82 (fun _ _ => rfl) rfl ?_
    refine go_icmp_ge 75 dX12_look_60 rfl (fun q => ?_) (fun q => ?_)
    · replace vc := vc.1 q
      refine go_iconst (v := (-1)) dX12_look_75 rfl ?_
      exact go_iret dX12_look_76 rfl vc rfl (Nat.le_refl _) (Nat.le_refl _)
    · replace vc := vc.2 q
      refine go_aload_n (x := 82) dX12_look_63 rfl ?_
      refine go_getR (x := 83) dX12_look_64 f12_7 sh82 (fun _ _ => rfl) (rf82_0 hR) ?_
      refine go_aload_n (x := 82) dX12_look_67 rfl ?_
      refine go_getI' (v := (h.1 82 2)) dX12_look_68 f12_284 sh82 (fun _ _ => rfl) rfl ?_
      refine go_iald' (v := (h.1 83 ((h.1 82 2) : Int32).toNatClampNeg)) dX12_look_71 sh83 vc.1 rfl ?_
      have vc := vc.2
      refine go_goto 76 dX12_look_72 rfl ?_
      exact go_iret dX12_look_76 rfl vc rfl (Nat.le_refl _) (Nat.le_refl _)
  · replace vc := vc.2 q
    refine go_aload_n (x := 82) dX12_look_11 rfl ?_
    refine go_getR (x := 83) dX12_look_12 f12_7 sh82 (fun _ _ => rfl) (rf82_0 hR) ?_
    refine go_aload_n (x := 82) dX12_look_15 rfl ?_
    refine go_getI' (v := (h.1 82 2)) dX12_look_16 f12_284 sh82 (fun _ _ => rfl) rfl ?_
    refine go_iald' (v := (h.1 83 ((h.1 82 2) : Int32).toNatClampNeg)) dX12_look_19 sh83 vc.1 rfl ?_
    have vc := vc.2
    refine go_bipush (v := 10) dX12_look_20 rfl ?_
    refine go_icmp_eq 39 dX12_look_22 rfl (fun q => ?_) (fun q => ?_)
    · replace vc := vc.1 q
      refine go_aload_n (x := 82) dX12_look_39 rfl ?_
      refine go_dup dX12_look_40 rfl ?_
      refine go_getI' (v := (h.1 82 2)) dX12_look_41 f12_284 sh82 (fun _ _ => rfl) rfl ?_
      refine go_iconst (v := 1) dX12_look_44 rfl ?_
      refine go_iadd dX12_look_45 ?_
      refine go_putI dX12_look_46 f12_284 sh82 rfl rfl ?_
      refine go_goto 0 dX12_look_49 rfl ?_
      exact vc
    · replace vc := vc.2 q
      refine go_aload_n (x := 82) dX12_look_25 rfl ?_
      refine go_getR (x := 83) dX12_look_26 f12_7 sh82 (fun _ _ => rfl) (rf82_0 hR) ?_
      refine go_aload_n (x := 82) dX12_look_29 rfl ?_
      refine go_getI' (v := (h.1 82 2)) dX12_look_30 f12_284 sh82 (fun _ _ => rfl) rfl ?_
      refine go_iald' (v := (h.1 83 ((h.1 82 2) : Int32).toNatClampNeg)) dX12_look_33 sh83 vc.1 rfl ?_
      have vc := vc.2
      refine go_bipush (v := 32) dX12_look_34 rfl ?_
      refine go_icmp_ne 52 dX12_look_36 rfl (fun q => ?_) (fun q => ?_)
      · replace vc := vc.1 q
        refine go_aload_n (x := 82) dX12_look_52 rfl ?_
        refine go_getI' (v := (h.1 82 2)) dX12_look_53 f12_284 sh82 (fun _ _ => rfl) rfl ?_
        refine go_aload_n (x := 82) dX12_look_56 rfl ?_
        refine go_getI' (v := (h.1 82 3)) dX12_look_57 f12_287 sh82 (fun _ _ => rfl) rfl ?_
        refine go_icmp_ge 75 dX12_look_60 rfl (fun q => ?_) (fun q => ?_)
        · replace vc := vc.1 q
          refine go_iconst (v := (-1)) dX12_look_75 rfl ?_
          exact go_iret dX12_look_76 rfl vc rfl (Nat.le_refl _) (Nat.le_refl _)
        · replace vc := vc.2 q
          refine go_aload_n (x := 82) dX12_look_63 rfl ?_
          refine go_getR (x := 83) dX12_look_64 f12_7 sh82 (fun _ _ => rfl) (rf82_0 hR) ?_
          refine go_aload_n (x := 82) dX12_look_67 rfl ?_
          refine go_getI' (v := (h.1 82 2)) dX12_look_68 f12_284 sh82 (fun _ _ => rfl) rfl ?_
          refine go_iald' (v := (h.1 83 ((h.1 82 2) : Int32).toNatClampNeg)) dX12_look_71 sh83 vc.1 rfl ?_
          have vc := vc.2
          refine go_goto 76 dX12_look_72 rfl ?_
          exact go_iret dX12_look_76 rfl vc rfl (Nat.le_refl _) (Nat.le_refl _)
      · replace vc := vc.2 q
        refine go_aload_n (x := 82) dX12_look_39 rfl ?_
        refine go_dup dX12_look_40 rfl ?_
        refine go_getI' (v := (h.1 82 2)) dX12_look_41 f12_284 sh82 (fun _ _ => rfl) rfl ?_
        refine go_iconst (v := 1) dX12_look_44 rfl ?_
        refine go_iadd dX12_look_45 ?_
        refine go_putI dX12_look_46 f12_284 sh82 rfl rfl ?_
        refine go_goto 0 dX12_look_49 rfl ?_
        exact vc
set_option maxRecDepth 20000 in
theorem wX12_isHere_0 {p : Program} {l : Launch} {e : Env} {s : State} {m : MethodId} {args : Array Value} {below : List Frame} {meth : Method} {c : Code} {G : gG} {d : Nat} {Q : Option Value → gH → Prop} {h : gH} {lk sp : Nat} {cd : Option Nat} {w1 n1 : Nat} (hR : h.2.2 = gRF lk sp cd) (hlk : lk = 30 ∨ lk = 67) (hsp : sp = 30 ∨ sp = 67) (hw1 : gSH[w1]? = some (22, n1)) (vc : ((¬ (h.1 82 5) = 0 → Q (some (.int 0)) h) ∧ ((h.1 82 5) = 0 → gC l G d MX12_look [.ref 82] h (rI fun v1 h1 => h1.2.2 = (h).2.2 ∧ gC l G d MX12_isLetter [.int v1] h1 (rI fun v2 h2 => h2.2.2 = (h1).2.2 ∧ ((v2 = 0 → Q (some (.int 0)) h2) ∧ (¬ v2 = 0 → ((¬ (h2.1 82 2) = (h2.1 82 4) → gg p l e s m args below meth c G (d + 1) MX12_isHere Q 35 [some (.ref 82), some (.ref w1), some (.int (h2.1 82 2)), none] [] h2) ∧ ((h2.1 82 2) = (h2.1 82 4) → Q (some (.int 0)) h2))))))))) : gg p l e s m args below meth c G (d + 1) MX12_isHere Q 0 [some (.ref 82), some (.ref w1), none, none] [] h := by
  refine go_aload_n (x := 82) dX12_isHere_0 rfl ?_
  refine go_getI' (v := (h.1 82 5)) dX12_isHere_1 f12_278 sh82 (fun _ _ => rfl) rfl ?_
  refine go_if_ne 28 dX12_isHere_4 rfl (fun q => ?_) (fun q => ?_)
  · replace vc := vc.1 q
    refine go_iconst (v := 0) dX12_isHere_28 rfl ?_
    exact go_zret dX12_isHere_29 rfl (by decide) vc rfl (Nat.le_refl _) (Nat.le_refl _)
  · replace vc := vc.2 q
    refine go_aload_n (x := 82) dX12_isHere_7 rfl ?_
    refine gvI0 MX12_look dX12_isHere_8 lX12_290 kX12_look vX12_look sh82 (by decide) rfl (Nat.le_of_ble_eq_true rfl) vc ?_
    intro v1 h1 vc
    obtain ⟨hR1, vc⟩ := vc
    replace hR := hR1.trans hR
    refine gsI1 MX12_isLetter dX12_isHere_11 lX12_294 kX12_isLetter sX12_isLetter (Nat.le_of_ble_eq_true rfl) vc ?_
    intro v2 h2 vc
    obtain ⟨hR2, vc⟩ := vc
    replace hR := hR2.trans hR
    refine go_if_eq 28 dX12_isHere_14 rfl (fun q => ?_) (fun q => ?_)
    · replace vc := vc.1 q
      refine go_iconst (v := 0) dX12_isHere_28 rfl ?_
      exact go_zret dX12_isHere_29 rfl (by decide) vc rfl (Nat.le_refl _) (Nat.le_refl _)
    · replace vc := vc.2 q
      refine go_aload_n (x := 82) dX12_isHere_17 rfl ?_
      refine go_getI' (v := (h2.1 82 2)) dX12_isHere_18 f12_284 sh82 (fun _ _ => rfl) rfl ?_
      refine go_aload_n (x := 82) dX12_isHere_21 rfl ?_
      refine go_getI' (v := (h2.1 82 4)) dX12_isHere_22 f12_298 sh82 (fun _ _ => rfl) rfl ?_
      refine go_icmp_ne 30 dX12_isHere_25 rfl (fun q => ?_) (fun q => ?_)
      · replace vc := vc.1 q
        refine go_aload_n (x := 82) dX12_isHere_30 rfl ?_
        refine go_getI' (v := (h2.1 82 2)) dX12_isHere_31 f12_284 sh82 (fun _ _ => rfl) rfl ?_
        refine go_istore_n dX12_isHere_34 (Nat.le_of_ble_eq_true rfl) ?_
        show gg p l e s m args below meth c G (d + 1) MX12_isHere Q 35 [some (.ref 82), some (.ref w1), some (.int (h2.1 82 2)), none] [] h2
        exact vc
      · replace vc := vc.2 q
        refine go_iconst (v := 0) dX12_isHere_28 rfl ?_
        exact go_zret dX12_isHere_29 rfl (by decide) vc rfl (Nat.le_refl _) (Nat.le_refl _)
set_option maxRecDepth 20000 in
theorem wX12_isHere_35 {p : Program} {l : Launch} {e : Env} {s : State} {m : MethodId} {args : Array Value} {below : List Frame} {meth : Method} {c : Code} {G : gG} {d : Nat} {Q : Option Value → gH → Prop} {h : gH} {lk sp : Nat} {cd : Option Nat} {w1 n1 : Nat} {x2 : Int32} (hR : h.2.2 = gRF lk sp cd) (hlk : lk = 30 ∨ lk = 67) (hsp : sp = 30 ∨ sp = 67) (hw1 : gSH[w1]? = some (22, n1)) (vc : (((h.1 82 3) ≤ x2 → (((x2 - (h.1 82 2)) = (Int32.ofNat n1) → gg p l e s m args below meth c G (d + 1) MX12_isHere Q 76 [some (.ref 82), some (.ref w1), some (.int x2), some (.int 0)] [] h) ∧ (¬ (x2 - (h.1 82 2)) = (Int32.ofNat n1) → Q (some (.int 0)) h))) ∧ (¬ (h.1 82 3) ≤ x2 → (vp_in x2 1600 ∧ gC l G d MX12_isLetter [.int (h.1 83 x2.toNatClampNeg)] h (rI fun v1 h1 => h1.2.2 = (h).2.2 ∧ ((v1 = 0 → (((x2 - (h1.1 82 2)) = (Int32.ofNat n1) → gg p l e s m args below meth c G (d + 1) MX12_isHere Q 76 [some (.ref 82), some (.ref w1), some (.int x2), some (.int 0)] [] h1) ∧ (¬ (x2 - (h1.1 82 2)) = (Int32.ofNat n1) → Q (some (.int 0)) h1))) ∧ (¬ v1 = 0 → gg p l e s m args below meth c G (d + 1) MX12_isHere Q 35 [some (.ref 82), some (.ref w1), some (.int (x2 + 1)), none] [] h1))))))) : gg p l e s m args below meth c G (d + 1) MX12_isHere Q 35 [some (.ref 82), some (.ref w1), some (.int x2), none] [] h := by
  refine go_iload_n (x := x2) dX12_isHere_35 rfl ?_
  refine go_aload_n (x := 82) dX12_isHere_36 rfl ?_
  refine go_getI' (v := (h.1 82 3)) dX12_isHere_37 f12_287 sh82 (fun _ _ => rfl) rfl ?_
  refine go_icmp_ge 61 dX12_isHere_40 rfl (fun q => ?_) (fun q => ?_)
  · replace vc := vc.1 q
    refine go_iload_n (x := x2) dX12_isHere_61 rfl ?_
    refine go_aload_n (x := 82) dX12_isHere_62 rfl ?_
    refine go_getI' (v := (h.1 82 2)) dX12_isHere_63 f12_284 sh82 (fun _ _ => rfl) rfl ?_
    refine go_isub dX12_isHere_66 ?_
    refine go_aload_n (x := w1) dX12_isHere_67 rfl ?_
    refine go_alen (v := (Int32.ofNat n1)) dX12_isHere_68 hw1 (by decide) rfl ?_
    refine go_icmp_eq 74 dX12_isHere_69 rfl (fun q => ?_) (fun q => ?_)
    · replace vc := vc.1 q
      refine go_iconst (v := 0) dX12_isHere_74 rfl ?_
      refine go_istore_n dX12_isHere_75 (Nat.le_of_ble_eq_true rfl) ?_
      show gg p l e s m args below meth c G (d + 1) MX12_isHere Q 76 [some (.ref 82), some (.ref w1), some (.int x2), some (.int 0)] [] h
      exact vc
    · replace vc := vc.2 q
      refine go_iconst (v := 0) dX12_isHere_72 rfl ?_
      exact go_zret dX12_isHere_73 rfl (by decide) vc rfl (Nat.le_refl _) (Nat.le_refl _)
  · replace vc := vc.2 q
    refine go_aload_n (x := 82) dX12_isHere_43 rfl ?_
    refine go_getR (x := 83) dX12_isHere_44 f12_7 sh82 (fun _ _ => rfl) (rf82_0 hR) ?_
    refine go_iload_n (x := x2) dX12_isHere_47 rfl ?_
    refine go_iald' (v := (h.1 83 x2.toNatClampNeg)) dX12_isHere_48 sh83 vc.1 rfl ?_
    have vc := vc.2
    refine gsI1 MX12_isLetter dX12_isHere_49 lX12_294 kX12_isLetter sX12_isLetter (Nat.le_of_ble_eq_true rfl) vc ?_
    intro v1 h1 vc
    obtain ⟨hR1, vc⟩ := vc
    replace hR := hR1.trans hR
    refine go_if_eq 61 dX12_isHere_52 rfl (fun q => ?_) (fun q => ?_)
    · replace vc := vc.1 q
      refine go_iload_n (x := x2) dX12_isHere_61 rfl ?_
      refine go_aload_n (x := 82) dX12_isHere_62 rfl ?_
      refine go_getI' (v := (h1.1 82 2)) dX12_isHere_63 f12_284 sh82 (fun _ _ => rfl) rfl ?_
      refine go_isub dX12_isHere_66 ?_
      refine go_aload_n (x := w1) dX12_isHere_67 rfl ?_
      refine go_alen (v := (Int32.ofNat n1)) dX12_isHere_68 hw1 (by decide) rfl ?_
      refine go_icmp_eq 74 dX12_isHere_69 rfl (fun q => ?_) (fun q => ?_)
      · replace vc := vc.1 q
        refine go_iconst (v := 0) dX12_isHere_74 rfl ?_
        refine go_istore_n dX12_isHere_75 (Nat.le_of_ble_eq_true rfl) ?_
        show gg p l e s m args below meth c G (d + 1) MX12_isHere Q 76 [some (.ref 82), some (.ref w1), some (.int x2), some (.int 0)] [] h1
        exact vc
      · replace vc := vc.2 q
        refine go_iconst (v := 0) dX12_isHere_72 rfl ?_
        exact go_zret dX12_isHere_73 rfl (by decide) vc rfl (Nat.le_refl _) (Nat.le_refl _)
    · replace vc := vc.2 q
      refine go_iinc (x := x2) dX12_isHere_55 rfl ?_
      show gg p l e s m args below meth c G (d + 1) MX12_isHere Q 58 [some (.ref 82), some (.ref w1), some (.int (x2 + 1)), none] [] h1
      refine go_goto 35 dX12_isHere_58 rfl ?_
      exact vc
set_option maxRecDepth 20000 in
theorem wX12_isHere_76 {p : Program} {l : Launch} {e : Env} {s : State} {m : MethodId} {args : Array Value} {below : List Frame} {meth : Method} {c : Code} {G : gG} {d : Nat} {Q : Option Value → gH → Prop} {h : gH} {lk sp : Nat} {cd : Option Nat} {w1 n1 : Nat} {x2 : Int32} {x3 : Int32} (hR : h.2.2 = gRF lk sp cd) (hlk : lk = 30 ∨ lk = 67) (hsp : sp = 30 ∨ sp = 67) (hw1 : gSH[w1]? = some (22, n1)) (vc : (((Int32.ofNat n1) ≤ x3 → Q (some (.int 1)) h) ∧ (¬ (Int32.ofNat n1) ≤ x3 → (vp_in (((h.1 82 2) + x3)) 1600 ∧ (vp_in x3 n1 ∧ (((h.1 83 (((h.1 82 2) + x3) : Int32).toNatClampNeg) = (h.1 w1 x3.toNatClampNeg) → gg p l e s m args below meth c G (d + 1) MX12_isHere Q 76 [some (.ref 82), some (.ref w1), some (.int x2), some (.int (x3 + 1))] [] h) ∧ (¬ (h.1 83 (((h.1 82 2) + x3) : Int32).toNatClampNeg) = (h.1 w1 x3.toNatClampNeg) → Q (some (.int 0)) h))))))) : gg p l e s m args below meth c G (d + 1) MX12_isHere Q 76 [some (.ref 82), some (.ref w1), some (.int x2), some (.int x3)] [] h := by
  refine go_iload_n (x := x3) dX12_isHere_76 rfl ?_
  refine go_aload_n (x := w1) dX12_isHere_77 rfl ?_
  refine go_alen (v := (Int32.ofNat n1)) dX12_isHere_78 hw1 (by decide) rfl ?_
  refine go_icmp_ge 107 dX12_isHere_79 rfl (fun q => ?_) (fun q => ?_)
  · replace vc := vc.1 q
    refine go_iconst (v := 1) dX12_isHere_107 rfl ?_
    exact go_zret dX12_isHere_108 rfl (by decide) vc rfl (Nat.le_refl _) (Nat.le_refl _)
  · replace vc := vc.2 q
    refine go_aload_n (x := 82) dX12_isHere_82 rfl ?_
    refine go_getR (x := 83) dX12_isHere_83 f12_7 sh82 (fun _ _ => rfl) (rf82_0 hR) ?_
    refine go_aload_n (x := 82) dX12_isHere_86 rfl ?_
    refine go_getI' (v := (h.1 82 2)) dX12_isHere_87 f12_284 sh82 (fun _ _ => rfl) rfl ?_
    refine go_iload_n (x := x3) dX12_isHere_90 rfl ?_
    refine go_iadd dX12_isHere_91 ?_
    refine go_iald' (v := (h.1 83 (((h.1 82 2) + x3) : Int32).toNatClampNeg)) dX12_isHere_92 sh83 vc.1 rfl ?_
    have vc := vc.2
    refine go_aload_n (x := w1) dX12_isHere_93 rfl ?_
    refine go_iload_n (x := x3) dX12_isHere_94 rfl ?_
    refine go_cald' (v := (h.1 w1 x3.toNatClampNeg)) dX12_isHere_95 hw1 vc.1 rfl ?_
    have vc := vc.2
    refine go_icmp_eq 101 dX12_isHere_96 rfl (fun q => ?_) (fun q => ?_)
    · replace vc := vc.1 q
      refine go_iinc (x := x3) dX12_isHere_101 rfl ?_
      show gg p l e s m args below meth c G (d + 1) MX12_isHere Q 104 [some (.ref 82), some (.ref w1), some (.int x2), some (.int (x3 + 1))] [] h
      refine go_goto 76 dX12_isHere_104 rfl ?_
      exact vc
    · replace vc := vc.2 q
      refine go_iconst (v := 0) dX12_isHere_99 rfl ?_
      exact go_zret dX12_isHere_100 rfl (by decide) vc rfl (Nat.le_refl _) (Nat.le_refl _)
set_option maxRecDepth 20000 in
theorem wX12_takes_0 {p : Program} {l : Launch} {e : Env} {s : State} {m : MethodId} {args : Array Value} {below : List Frame} {meth : Method} {c : Code} {G : gG} {d : Nat} {Q : Option Value → gH → Prop} {h : gH} {lk sp : Nat} {cd : Option Nat} {w1 n1 : Nat} (hR : h.2.2 = gRF lk sp cd) (hlk : lk = 30 ∨ lk = 67) (hsp : sp = 30 ∨ sp = 67) (hw1 : gSH[w1]? = some (22, n1)) (vc : gC l G d MX12_isHere [.ref 82, .ref w1] h (rI fun v1 h1 => h1.2.2 = (h).2.2 ∧ ((¬ v1 = 0 → Q (some (.int 1)) (sI (sI h1 82 2 ((h1.1 82 2) + (Int32.ofNat n1))) 82 4 ((h1.1 82 2) + (Int32.ofNat n1)))) ∧ (v1 = 0 → Q (some (.int 0)) h1)))) : gg p l e s m args below meth c G (d + 1) MX12_takes Q 0 [some (.ref 82), some (.ref w1)] [] h := by
  refine go_aload_n (x := 82) dX12_takes_0 rfl ?_
  refine go_aload_n (x := w1) dX12_takes_1 rfl ?_
  refine gvI1 MX12_isHere dX12_takes_2 lX12_301 kX12_isHere vX12_isHere sh82 (by decide) rfl (Nat.le_of_ble_eq_true rfl) vc ?_
  intro v1 h1 vc
  obtain ⟨hR1, vc⟩ := vc
  replace hR := hR1.trans hR
  refine go_if_ne 10 dX12_takes_5 rfl (fun q => ?_) (fun q => ?_)
  · replace vc := vc.1 q
    refine go_aload_n (x := 82) dX12_takes_10 rfl ?_
    refine go_dup dX12_takes_11 rfl ?_
    refine go_getI' (v := (h1.1 82 2)) dX12_takes_12 f12_284 sh82 (fun _ _ => rfl) rfl ?_
    refine go_aload_n (x := w1) dX12_takes_15 rfl ?_
    refine go_alen (v := (Int32.ofNat n1)) dX12_takes_16 hw1 (by decide) rfl ?_
    refine go_iadd dX12_takes_17 ?_
    refine go_putI dX12_takes_18 f12_284 sh82 rfl rfl ?_
    refine go_aload_n (x := 82) dX12_takes_21 rfl ?_
    refine go_aload_n (x := 82) dX12_takes_22 rfl ?_
    refine go_getI' (v := ((h1.1 82 2) + (Int32.ofNat n1))) dX12_takes_23 f12_284 sh82 (fun _ _ => rfl) rfl ?_
    refine go_putI dX12_takes_26 f12_298 sh82 rfl rfl ?_
    refine go_iconst (v := 1) dX12_takes_29 rfl ?_
    exact go_zret dX12_takes_30 rfl (by decide) vc rfl (Nat.le_refl _) (Nat.le_refl _)
  · replace vc := vc.2 q
    refine go_iconst (v := 0) dX12_takes_8 rfl ?_
    exact go_zret dX12_takes_9 rfl (by decide) vc rfl (Nat.le_refl _) (Nat.le_refl _)
set_option maxRecDepth 20000 in
theorem wX12_asks_0 {p : Program} {l : Launch} {e : Env} {s : State} {m : MethodId} {args : Array Value} {below : List Frame} {meth : Method} {c : Code} {G : gG} {d : Nat} {Q : Option Value → gH → Prop} {h : gH} {lk sp : Nat} {cd : Option Nat} {w1 n1 : Nat} (hR : h.2.2 = gRF lk sp cd) (hlk : lk = 30 ∨ lk = 67) (hsp : sp = 30 ∨ sp = 67) (hw1 : gSH[w1]? = some (22, n1)) (vc : ((¬ (h.1 82 5) = 0 → Q none h) ∧ ((h.1 82 5) = 0 → gC l G d MX12_takes [.ref 82, .ref w1] h (rI fun v1 h1 => h1.2.2 = (h).2.2 ∧ ((¬ v1 = 0 → Q none h1) ∧ (v1 = 0 → gC l G d MX12_fail [.ref 82, .int 1, .int (h1.1 82 2)] h1 (rV fun h2 => h2.2.2 = (h1).2.2 ∧ Q none h2))))))) : gg p l e s m args below meth c G (d + 1) MX12_asks Q 0 [some (.ref 82), some (.ref w1)] [] h := by
  refine go_aload_n (x := 82) dX12_asks_0 rfl ?_
  refine go_getI' (v := (h.1 82 5)) dX12_asks_1 f12_278 sh82 (fun _ _ => rfl) rfl ?_
  refine go_if_ne 24 dX12_asks_4 rfl (fun q => ?_) (fun q => ?_)
  · replace vc := vc.1 q
    exact go_vret dX12_asks_24 rfl vc rfl (Nat.le_refl _) (Nat.le_refl _)
  · replace vc := vc.2 q
    refine go_aload_n (x := 82) dX12_asks_7 rfl ?_
    refine go_aload_n (x := w1) dX12_asks_8 rfl ?_
    refine gvI1 MX12_takes dX12_asks_9 lX12_305 kX12_takes vX12_takes sh82 (by decide) rfl (Nat.le_of_ble_eq_true rfl) vc ?_
    intro v1 h1 vc
    obtain ⟨hR1, vc⟩ := vc
    replace hR := hR1.trans hR
    refine go_if_ne 24 dX12_asks_12 rfl (fun q => ?_) (fun q => ?_)
    · replace vc := vc.1 q
      exact go_vret dX12_asks_24 rfl vc rfl (Nat.le_refl _) (Nat.le_refl _)
    · replace vc := vc.2 q
      refine go_aload_n (x := 82) dX12_asks_15 rfl ?_
      refine go_iconst (v := 1) dX12_asks_16 rfl ?_
      refine go_aload_n (x := 82) dX12_asks_17 rfl ?_
      refine go_getI' (v := (h1.1 82 2)) dX12_asks_18 f12_284 sh82 (fun _ _ => rfl) rfl ?_
      refine gvV2 MX12_fail dX12_asks_21 lX12_308 kX12_fail vX12_fail sh82 (by decide) rfl (Nat.le_of_ble_eq_true rfl) vc ?_
      intro h2 vc
      obtain ⟨hR2, vc⟩ := vc
      replace hR := hR2.trans hR
      exact go_vret dX12_asks_24 rfl vc rfl (Nat.le_refl _) (Nat.le_refl _)
set_option maxRecDepth 20000 in
theorem wX12_takesSign_0 {p : Program} {l : Launch} {e : Env} {s : State} {m : MethodId} {args : Array Value} {below : List Frame} {meth : Method} {c : Code} {G : gG} {d : Nat} {Q : Option Value → gH → Prop} {h : gH} {lk sp : Nat} {cd : Option Nat} {a1 : Int32} (hR : h.2.2 = gRF lk sp cd) (hlk : lk = 30 ∨ lk = 67) (hsp : sp = 30 ∨ sp = 67)  (vc : ((¬ (h.1 82 5) = 0 → Q (some (.int 0)) h) ∧ ((h.1 82 5) = 0 → gC l G d MX12_look [.ref 82] h (rI fun v1 h1 => h1.2.2 = (h).2.2 ∧ ((v1 = a1 → Q (some (.int 1)) (sI h1 82 2 ((h1.1 82 2) + 1))) ∧ (¬ v1 = a1 → Q (some (.int 0)) h1)))))) : gg p l e s m args below meth c G (d + 1) MX12_takesSign Q 0 [some (.ref 82), some (.int a1)] [] h := by
  refine go_aload_n (x := 82) dX12_takesSign_0 rfl ?_
  refine go_getI' (v := (h.1 82 5)) dX12_takesSign_1 f12_278 sh82 (fun _ _ => rfl) rfl ?_
  refine go_if_ne 15 dX12_takesSign_4 rfl (fun q => ?_) (fun q => ?_)
  · replace vc := vc.1 q
    refine go_iconst (v := 0) dX12_takesSign_15 rfl ?_
    exact go_zret dX12_takesSign_16 rfl (by decide) vc rfl (Nat.le_refl _) (Nat.le_refl _)
  · replace vc := vc.2 q
    refine go_aload_n (x := 82) dX12_takesSign_7 rfl ?_
    refine gvI0 MX12_look dX12_takesSign_8 lX12_290 kX12_look vX12_look sh82 (by decide) rfl (Nat.le_of_ble_eq_true rfl) vc ?_
    intro v1 h1 vc
    obtain ⟨hR1, vc⟩ := vc
    replace hR := hR1.trans hR
    refine go_iload_n (x := a1) dX12_takesSign_11 rfl ?_
    refine go_icmp_eq 17 dX12_takesSign_12 rfl (fun q => ?_) (fun q => ?_)
    · replace vc := vc.1 q
      refine go_aload_n (x := 82) dX12_takesSign_17 rfl ?_
      refine go_dup dX12_takesSign_18 rfl ?_
      refine go_getI' (v := (h1.1 82 2)) dX12_takesSign_19 f12_284 sh82 (fun _ _ => rfl) rfl ?_
      refine go_iconst (v := 1) dX12_takesSign_22 rfl ?_
      refine go_iadd dX12_takesSign_23 ?_
      refine go_putI dX12_takesSign_24 f12_284 sh82 rfl rfl ?_
      refine go_iconst (v := 1) dX12_takesSign_27 rfl ?_
      exact go_zret dX12_takesSign_28 rfl (by decide) vc rfl (Nat.le_refl _) (Nat.le_refl _)
    · replace vc := vc.2 q
      refine go_iconst (v := 0) dX12_takesSign_15 rfl ?_
      exact go_zret dX12_takesSign_16 rfl (by decide) vc rfl (Nat.le_refl _) (Nat.le_refl _)
