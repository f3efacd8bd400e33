set_option maxRecDepth 20000 in
theorem wX12_sumsTold_0 {p : Program} {l : Launch} {e : Env} {s : State} {m : MethodId} {args : Array Value} {below : List Frame} {meth : Method} {c : Code} {G : gG} {d : Nat} {Q : Option Value → gH → Prop} {h : gH} {lk sp : Nat} {cd : Option Nat}  (hR : h.2.2 = gRF lk sp cd) (hlk : lk = 30 ∨ lk = 67) (hsp : sp = 30 ∨ sp = 67)  (vc : gg p l e s m args below meth c G (d + 1) MX12_sumsTold Q 15 [some (.ref 82), some (.int (h.1 82 64)), some (.int 1)] [] (sI h 82 64 (h.1 82 62))) : gg p l e s m args below meth c G (d + 1) MX12_sumsTold Q 0 [some (.ref 82), none, none] [] h := by
  refine go_aload_n (x := 82) dX12_sumsTold_0 rfl ?_
  refine go_getI' (v := (h.1 82 64)) dX12_sumsTold_1 f12_383 sh82 (fun _ _ => rfl) rfl ?_
  refine go_istore_n dX12_sumsTold_4 (Nat.le_of_ble_eq_true rfl) ?_
  show gg p l e s m args below meth c G (d + 1) MX12_sumsTold Q 5 [some (.ref 82), some (.int (h.1 82 64)), none] [] h
  refine go_aload_n (x := 82) dX12_sumsTold_5 rfl ?_
  refine go_aload_n (x := 82) dX12_sumsTold_6 rfl ?_
  refine go_getI' (v := (h.1 82 62)) dX12_sumsTold_7 f12_377 sh82 (fun _ _ => rfl) rfl ?_
  refine go_putI dX12_sumsTold_10 f12_383 sh82 rfl rfl ?_
  refine go_iconst (v := 1) dX12_sumsTold_13 rfl ?_
  refine go_istore_n dX12_sumsTold_14 (Nat.le_of_ble_eq_true rfl) ?_
  show gg p l e s m args below meth c G (d + 1) MX12_sumsTold Q 15 [some (.ref 82), some (.int (h.1 82 64)), some (.int 1)] [] (sI h 82 64 (h.1 82 62))
  exact vc
set_option maxRecDepth 20000 in
theorem wX12_sumsTold_15 {p : Program} {l : Launch} {e : Env} {s : State} {m : MethodId} {args : Array Value} {below : List Frame} {meth : Method} {c : Code} {G : gG} {d : Nat} {Q : Option Value → gH → Prop} {h : gH} {lk sp : Nat} {cd : Option Nat} {x1 : Int32} {x2 : Int32} (hR : h.2.2 = gRF lk sp cd) (hlk : lk = 30 ∨ lk = 67) (hsp : sp = 30 ∨ sp = 67)  (vc : ((x2 = 0 → gg p l e s m args below meth c G (d + 1) MX12_sumsTold Q 53 [some (.ref 82), some (.int x1), some (.int x2)] [] h) ∧ (¬ x2 = 0 → ((¬ (h.1 82 5) = 0 → gg p l e s m args below meth c G (d + 1) MX12_sumsTold Q 53 [some (.ref 82), some (.int x1), some (.int x2)] [] h) ∧ ((h.1 82 5) = 0 → gC l G d MX12_onePart [.ref 82] h (rV fun h1 => h1.2.2 = (h).2.2 ∧ ((¬ (h1.1 82 5) = 0 → gg p l e s m args below meth c G (d + 1) MX12_sumsTold Q 15 [some (.ref 82), some (.int x1), some (.int 0)] [] h1) ∧ ((h1.1 82 5) = 0 → gC l G d MX12_goesOn [.ref 82] h1 (rI fun v2 h2 => h2.2.2 = (h1).2.2 ∧ ((v2 = 0 → gg p l e s m args below meth c G (d + 1) MX12_sumsTold Q 15 [some (.ref 82), some (.int x1), some (.int 0)] [] h2) ∧ (¬ v2 = 0 → gg p l e s m args below meth c G (d + 1) MX12_sumsTold Q 15 [some (.ref 82), some (.int x1), some (.int 1)] [] h2))))))))))) : gg p l e s m args below meth c G (d + 1) MX12_sumsTold Q 15 [some (.ref 82), some (.int x1), some (.int x2)] [] h := by
  refine go_iload_n (x := x2) dX12_sumsTold_15 rfl ?_
  refine go_if_eq 53 dX12_sumsTold_16 rfl (fun q => ?_) (fun q => ?_)
  · replace vc := vc.1 q
    exact vc
  · replace vc := vc.2 q
    refine go_aload_n (x := 82) dX12_sumsTold_19 rfl ?_
    refine go_getI' (v := (h.1 82 5)) dX12_sumsTold_20 f12_278 sh82 (fun _ _ => rfl) rfl ?_
    refine go_if_ne 53 dX12_sumsTold_23 rfl (fun q => ?_) (fun q => ?_)
    · replace vc := vc.1 q
      exact vc
    · replace vc := vc.2 q
      refine go_aload_n (x := 82) dX12_sumsTold_26 rfl ?_
      refine gvV0 MX12_onePart dX12_sumsTold_27 lX12_452 kX12_onePart vX12_onePart sh82 (by decide) rfl (Nat.le_of_ble_eq_true rfl) vc ?_
      intro h1 vc
      obtain ⟨hR1, vc⟩ := vc
      replace hR := hR1.trans hR
      refine go_aload_n (x := 82) dX12_sumsTold_30 rfl ?_
      refine go_getI' (v := (h1.1 82 5)) dX12_sumsTold_31 f12_278 sh82 (fun _ _ => rfl) rfl ?_
      refine go_if_ne 48 dX12_sumsTold_34 rfl (fun q => ?_) (fun q => ?_)
      · replace vc := vc.1 q
        refine go_iconst (v := 0) dX12_sumsTold_48 rfl ?_
        refine go_istore_n dX12_sumsTold_49 (Nat.le_of_ble_eq_true rfl) ?_
        show gg p l e s m args below meth c G (d + 1) MX12_sumsTold Q 50 [some (.ref 82), some (.int x1), some (.int 0)] [] h1
        refine go_goto 15 dX12_sumsTold_50 rfl ?_
        exact vc
      · replace vc := vc.2 q
        refine go_aload_n (x := 82) dX12_sumsTold_37 rfl ?_
        refine gvI0 MX12_goesOn dX12_sumsTold_38 lX12_455 kX12_goesOn vX12_goesOn sh82 (by decide) rfl (Nat.le_of_ble_eq_true rfl) vc ?_
        intro v2 h2 vc
        obtain ⟨hR2, vc⟩ := vc
        replace hR := hR2.trans hR
        refine go_if_eq 48 dX12_sumsTold_41 rfl (fun q => ?_) (fun q => ?_)
        · replace vc := vc.1 q
          refine go_iconst (v := 0) dX12_sumsTold_48 rfl ?_
          refine go_istore_n dX12_sumsTold_49 (Nat.le_of_ble_eq_true rfl) ?_
          show gg p l e s m args below meth c G (d + 1) MX12_sumsTold Q 50 [some (.ref 82), some (.int x1), some (.int 0)] [] h2
          refine go_goto 15 dX12_sumsTold_50 rfl ?_
          exact vc
        · replace vc := vc.2 q
          refine go_iconst (v := 1) dX12_sumsTold_44 rfl ?_
          refine go_goto 49 dX12_sumsTold_45 rfl ?_
          refine go_istore_n dX12_sumsTold_49 (Nat.le_of_ble_eq_true rfl) ?_
          show gg p l e s m args below meth c G (d + 1) MX12_sumsTold Q 50 [some (.ref 82), some (.int x1), some (.int 1)] [] h2
          refine go_goto 15 dX12_sumsTold_50 rfl ?_
          exact vc
set_option maxRecDepth 20000 in
theorem wX12_sumsTold_53 {p : Program} {l : Launch} {e : Env} {s : State} {m : MethodId} {args : Array Value} {below : List Frame} {meth : Method} {c : Code} {G : gG} {d : Nat} {Q : Option Value → gH → Prop} {h : gH} {lk sp : Nat} {cd : Option Nat} {x1 : Int32} {x2 : Int32} (hR : h.2.2 = gRF lk sp cd) (hlk : lk = 30 ∨ lk = 67) (hsp : sp = 30 ∨ sp = 67)  (vc : ((¬ (h.1 82 5) = 0 → Q none (sI h 82 64 x1)) ∧ ((h.1 82 5) = 0 → (((h.1 82 62) ≤ (h.1 82 64) → Q none (sI h 82 64 x1)) ∧ (¬ (h.1 82 62) ≤ (h.1 82 64) → gC l G d MX12_drops [.ref 82] h (rV fun h1 => h1.2.2 = (h).2.2 ∧ gg p l e s m args below meth c G (d + 1) MX12_sumsTold Q 53 [some (.ref 82), some (.int x1), some (.int x2)] [] h1)))))) : gg p l e s m args below meth c G (d + 1) MX12_sumsTold Q 53 [some (.ref 82), some (.int x1), some (.int x2)] [] h := by
  refine go_aload_n (x := 82) dX12_sumsTold_53 rfl ?_
  refine go_getI' (v := (h.1 82 5)) dX12_sumsTold_54 f12_278 sh82 (fun _ _ => rfl) rfl ?_
  refine go_if_ne 78 dX12_sumsTold_57 rfl (fun q => ?_) (fun q => ?_)
  · replace vc := vc.1 q
    refine go_aload_n (x := 82) dX12_sumsTold_78 rfl ?_
    refine go_iload_n (x := x1) dX12_sumsTold_79 rfl ?_
    refine go_putI dX12_sumsTold_80 f12_383 sh82 rfl rfl ?_
    exact go_vret dX12_sumsTold_83 rfl vc rfl (Nat.le_refl _) (Nat.le_refl _)
  · replace vc := vc.2 q
    refine go_aload_n (x := 82) dX12_sumsTold_60 rfl ?_
    refine go_getI' (v := (h.1 82 62)) dX12_sumsTold_61 f12_377 sh82 (fun _ _ => rfl) rfl ?_
    refine go_aload_n (x := 82) dX12_sumsTold_64 rfl ?_
    refine go_getI' (v := (h.1 82 64)) dX12_sumsTold_65 f12_383 sh82 (fun _ _ => rfl) rfl ?_
    refine go_icmp_le 78 dX12_sumsTold_68 rfl (fun q => ?_) (fun q => ?_)
    · replace vc := vc.1 q
      refine go_aload_n (x := 82) dX12_sumsTold_78 rfl ?_
      refine go_iload_n (x := x1) dX12_sumsTold_79 rfl ?_
      refine go_putI dX12_sumsTold_80 f12_383 sh82 rfl rfl ?_
      exact go_vret dX12_sumsTold_83 rfl vc rfl (Nat.le_refl _) (Nat.le_refl _)
    · replace vc := vc.2 q
      refine go_aload_n (x := 82) dX12_sumsTold_71 rfl ?_
      refine gvV0 MX12_drops dX12_sumsTold_72 lX12_437 kX12_drops vX12_drops sh82 (by decide) rfl (Nat.le_of_ble_eq_true rfl) vc ?_
      intro h1 vc
      obtain ⟨hR1, vc⟩ := vc
      replace hR := hR1.trans hR
      refine go_goto 53 dX12_sumsTold_75 rfl ?_
      exact vc
set_option maxRecDepth 20000 in
theorem wX12_fault_0 {p : Program} {l : Launch} {e : Env} {s : State} {m : MethodId} {args : Array Value} {below : List Frame} {meth : Method} {c : Code} {G : gG} {d : Nat} {Q : Option Value → gH → Prop} {h : gH} {lk sp : Nat} {cd : Option Nat} {a1 : Int32} (hR : h.2.2 = gRF lk sp cd) (hlk : lk = 30 ∨ lk = 67) (hsp : sp = 30 ∨ sp = 67)  (vc : ((¬ a1 = 0 → ((¬ a1 = 1 → Q (some (.int (-1))) h) ∧ (a1 = 1 → Q (some (.int (h.1 82 8))) h))) ∧ (a1 = 0 → Q (some (.int (h.1 82 7))) h))) : gg p l e s m args below meth c G d MX12_fault Q 0 [some (.ref 82), some (.int a1)] [] h := by
  refine go_iload_n (x := a1) dX12_fault_0 rfl ?_
  refine go_if_ne 11 dX12_fault_1 rfl (fun q => ?_) (fun q => ?_)
  · replace vc := vc.1 q
    refine go_iload_n (x := a1) dX12_fault_11 rfl ?_
    refine go_iconst (v := 1) dX12_fault_12 rfl ?_
    refine go_icmp_ne 23 dX12_fault_13 rfl (fun q => ?_) (fun q => ?_)
    · replace vc := vc.1 q
      refine go_iconst (v := (-1)) dX12_fault_23 rfl ?_
      exact go_iret dX12_fault_24 rfl vc rfl (Nat.le_refl _) (Nat.le_refl _)
    · replace vc := vc.2 q
      refine go_aload_n (x := 82) dX12_fault_16 rfl ?_
      refine go_getI' (v := (h.1 82 8)) dX12_fault_17 f12_13 sh82 (fun _ _ => rfl) rfl ?_
      refine go_goto 24 dX12_fault_20 rfl ?_
      exact go_iret dX12_fault_24 rfl vc rfl (Nat.le_refl _) (Nat.le_refl _)
  · replace vc := vc.2 q
    refine go_aload_n (x := 82) dX12_fault_4 rfl ?_
    refine go_getI' (v := (h.1 82 7)) dX12_fault_5 f12_416 sh82 (fun _ _ => rfl) rfl ?_
    refine go_goto 24 dX12_fault_8 rfl ?_
    exact go_iret dX12_fault_24 rfl vc rfl (Nat.le_refl _) (Nat.le_refl _)
set_option maxRecDepth 20000 in
theorem wX12_clip_0 {p : Program} {l : Launch} {e : Env} {s : State} {m : MethodId} {args : Array Value} {below : List Frame} {meth : Method} {c : Code} {G : gG} {d : Nat} {Q : Option Value → gH → Prop} {h : gH} {lk sp : Nat} {cd : Option Nat} {a1 : Int64} (hR : h.2.2 = gRF lk sp cd) (hlk : lk = 30 ∨ lk = 67) (hsp : sp = 30 ∨ sp = 67)  (vc : (((lg_cmp a1 1000000) ≤ 0 → ((0 ≤ (lg_cmp a1 (-1000000)) → Q (some (.long a1)) h) ∧ (¬ 0 ≤ (lg_cmp a1 (-1000000)) → Q (some (.long (-1000000))) h))) ∧ (¬ (lg_cmp a1 1000000) ≤ 0 → Q (some (.long 1000000)) h))) : gg p l e s m args below meth c G d MX12_clip Q 0 [some (.long a1), none] [] h := by
  refine go_lload_n (x := a1) dX12_clip_0 rfl ?_
  refine go_ldc2 (v := 1000000) dX12_clip_1 nX12_458 ?_
  refine go_lcmp dX12_clip_4 ?_
  refine go_if_le 14 dX12_clip_5 rfl (fun q => ?_) (fun q => ?_)
  · replace vc := vc.1 q
    refine go_lload_n (x := a1) dX12_clip_14 rfl ?_
    refine go_ldc2 (v := (-1000000)) dX12_clip_15 nX12_460 ?_
    refine go_lcmp dX12_clip_18 ?_
    refine go_if_ge 28 dX12_clip_19 rfl (fun q => ?_) (fun q => ?_)
    · replace vc := vc.1 q
      refine go_lload_n (x := a1) dX12_clip_28 rfl ?_
      exact go_lret dX12_clip_29 rfl vc rfl (Nat.le_refl _) (Nat.le_refl _)
    · replace vc := vc.2 q
      refine go_ldc2 (v := (-1000000)) dX12_clip_22 nX12_460 ?_
      refine go_goto 29 dX12_clip_25 rfl ?_
      exact go_lret dX12_clip_29 rfl vc rfl (Nat.le_refl _) (Nat.le_refl _)
  · replace vc := vc.2 q
    refine go_ldc2 (v := 1000000) dX12_clip_8 nX12_458 ?_
    refine go_goto 29 dX12_clip_11 rfl ?_
    exact go_lret dX12_clip_29 rfl vc rfl (Nat.le_refl _) (Nat.le_refl _)
set_option maxRecDepth 20000 in
theorem wX12_floor_0 {p : Program} {l : Launch} {e : Env} {s : State} {m : MethodId} {args : Array Value} {below : List Frame} {meth : Method} {c : Code} {G : gG} {d : Nat} {Q : Option Value → gH → Prop} {h : gH} {lk sp : Nat} {cd : Option Nat} {a1 : Int64} {a2 : Int64} (hR : h.2.2 = gRF lk sp cd) (hlk : lk = 30 ∨ lk = 67) (hsp : sp = 30 ∨ sp = 67)  (vc : ((¬ (lg_cmp a2 0) = 0 → (¬ a2 = 0 ∧ (¬ a2 = 0 ∧ (((lg_cmp (a1 - a1 / a2 * a2) 0) = 0 → Q (some (.long (a1 / a2))) h) ∧ (¬ (lg_cmp (a1 - a1 / a2 * a2) 0) = 0 → ((0 ≤ (lg_cmp a1 0) → ((0 ≤ (lg_cmp a2 0) → Q (some (.long (a1 / a2))) h) ∧ (¬ 0 ≤ (lg_cmp a2 0) → Q (some (.long ((a1 / a2) - 1))) h))) ∧ (¬ 0 ≤ (lg_cmp a1 0) → ((0 ≤ (lg_cmp a2 0) → Q (some (.long ((a1 / a2) - 1))) h) ∧ (¬ 0 ≤ (lg_cmp a2 0) → Q (some (.long (a1 / a2))) h))))))))) ∧ ((lg_cmp a2 0) = 0 → Q (some (.long 0)) h))) : gg p l e s m args below meth c G d MX12_floor Q 0 [some (.long a1), none, some (.long a2), none, none, none] [] h := by
  refine go_lload_n (x := a2) dX12_floor_0 rfl ?_
  refine go_lconst (v := 0) dX12_floor_1 rfl ?_
  refine go_lcmp dX12_floor_2 ?_
  refine go_if_ne 8 dX12_floor_3 rfl (fun q => ?_) (fun q => ?_)
  · replace vc := vc.1 q
    refine go_lload_n (x := a1) dX12_floor_8 rfl ?_
    refine go_lload_n (x := a2) dX12_floor_9 rfl ?_
    refine go_ldiv dX12_floor_10 vc.1 ?_
    have vc := vc.2
    refine go_lstore dX12_floor_11 (Nat.le_of_ble_eq_true rfl) ?_
    show gg p l e s m args below meth c G d MX12_floor Q 13 [some (.long a1), none, some (.long a2), none, some (.long (a1 / a2)), none] [] h
    refine go_lload_n (x := a1) dX12_floor_13 rfl ?_
    refine go_lload_n (x := a2) dX12_floor_14 rfl ?_
    refine go_lrem dX12_floor_15 vc.1 ?_
    have vc := vc.2
    refine go_lconst (v := 0) dX12_floor_16 rfl ?_
    refine go_lcmp dX12_floor_17 ?_
    refine go_if_eq 53 dX12_floor_18 rfl (fun q => ?_) (fun q => ?_)
    · replace vc := vc.1 q
      refine go_lload (x := (a1 / a2)) dX12_floor_53 rfl ?_
      exact go_lret dX12_floor_55 rfl vc rfl (Nat.le_refl _) (Nat.le_refl _)
    · replace vc := vc.2 q
      refine go_lload_n (x := a1) dX12_floor_21 rfl ?_
      refine go_lconst (v := 0) dX12_floor_22 rfl ?_
      refine go_lcmp dX12_floor_23 ?_
      refine go_if_ge 31 dX12_floor_24 rfl (fun q => ?_) (fun q => ?_)
      · replace vc := vc.1 q
        refine go_iconst (v := 0) dX12_floor_31 rfl ?_
        refine go_lload_n (x := a2) dX12_floor_32 rfl ?_
        refine go_lconst (v := 0) dX12_floor_33 rfl ?_
        refine go_lcmp dX12_floor_34 ?_
        refine go_if_ge 42 dX12_floor_35 rfl (fun q => ?_) (fun q => ?_)
        · replace vc := vc.1 q
          refine go_iconst (v := 0) dX12_floor_42 rfl ?_
          refine go_icmp_eq 53 dX12_floor_43 rfl (fun q => ?_) (fun q => absurd q (by decide))
          refine go_lload (x := (a1 / a2)) dX12_floor_53 rfl ?_
          exact go_lret dX12_floor_55 rfl vc rfl (Nat.le_refl _) (Nat.le_refl _)
        · replace vc := vc.2 q
          refine go_iconst (v := 1) dX12_floor_38 rfl ?_
          refine go_goto 43 dX12_floor_39 rfl ?_
          refine go_icmp_eq 53 dX12_floor_43 rfl (fun q => absurd q (by decide)) (fun q => ?_)
          refine go_lload (x := (a1 / a2)) dX12_floor_46 rfl ?_
          refine go_lconst (v := 1) dX12_floor_48 rfl ?_
          refine go_lsub dX12_floor_49 ?_
          refine go_goto 55 dX12_floor_50 rfl ?_
          exact go_lret dX12_floor_55 rfl vc rfl (Nat.le_refl _) (Nat.le_refl _)
      · replace vc := vc.2 q
        refine go_iconst (v := 1) dX12_floor_27 rfl ?_
        refine go_goto 32 dX12_floor_28 rfl ?_
        refine go_lload_n (x := a2) dX12_floor_32 rfl ?_
        refine go_lconst (v := 0) dX12_floor_33 rfl ?_
        refine go_lcmp dX12_floor_34 ?_
        refine go_if_ge 42 dX12_floor_35 rfl (fun q => ?_) (fun q => ?_)
        · replace vc := vc.1 q
          refine go_iconst (v := 0) dX12_floor_42 rfl ?_
          refine go_icmp_eq 53 dX12_floor_43 rfl (fun q => absurd q (by decide)) (fun q => ?_)
          refine go_lload (x := (a1 / a2)) dX12_floor_46 rfl ?_
          refine go_lconst (v := 1) dX12_floor_48 rfl ?_
          refine go_lsub dX12_floor_49 ?_
          refine go_goto 55 dX12_floor_50 rfl ?_
          exact go_lret dX12_floor_55 rfl vc rfl (Nat.le_refl _) (Nat.le_refl _)
        · replace vc := vc.2 q
          refine go_iconst (v := 1) dX12_floor_38 rfl ?_
          refine go_goto 43 dX12_floor_39 rfl ?_
          refine go_icmp_eq 53 dX12_floor_43 rfl (fun q => ?_) (fun q => absurd q (by decide))
          refine go_lload (x := (a1 / a2)) dX12_floor_53 rfl ?_
          exact go_lret dX12_floor_55 rfl vc rfl (Nat.le_refl _) (Nat.le_refl _)
  · replace vc := vc.2 q
    refine go_lconst (v := 0) dX12_floor_6 rfl ?_
    exact go_lret dX12_floor_7 rfl vc rfl (Nat.le_refl _) (Nat.le_refl _)
set_option maxRecDepth 20000 in
theorem wX12_puts_0 {p : Program} {l : Launch} {e : Env} {s : State} {m : MethodId} {args : Array Value} {below : List Frame} {meth : Method} {c : Code} {G : gG} {d : Nat} {Q : Option Value → gH → Prop} {h : gH} {lk sp : Nat} {cd : Option Nat} {a1 : Int64} (hR : h.2.2 = gRF lk sp cd) (hlk : lk = 30 ∨ lk = 67) (hsp : sp = 30 ∨ sp = 67)  (vc : (vp_in ((h.1 82 66)) 1700 ∧ Q none (sI (sL h 131 ((h.1 82 66) : Int32).toNatClampNeg a1) 82 66 ((h.1 82 66) + 1)))) : gg p l e s m args below meth c G d MX12_puts Q 0 [some (.ref 82), some (.long a1), none] [] h := by
  refine go_aload_n (x := 82) dX12_puts_0 rfl ?_
  refine go_getR (x := 131) dX12_puts_1 f12_160 sh82 (fun _ _ => rfl) (rf82_65 hR) ?_
  refine go_aload_n (x := 82) dX12_puts_4 rfl ?_
  refine go_getI' (v := (h.1 82 66)) dX12_puts_5 f12_462 sh82 (fun _ _ => rfl) rfl ?_
  refine go_lload_n (x := a1) dX12_puts_8 rfl ?_
  refine go_last dX12_puts_9 sh131 vc.1 ?_
  have vc := vc.2
  show gg p l e s m args below meth c G d MX12_puts Q 10 [some (.ref 82), some (.long a1), none] [] (sL h 131 ((h.1 82 66) : Int32).toNatClampNeg a1)
  refine go_aload_n (x := 82) dX12_puts_10 rfl ?_
  refine go_dup dX12_puts_11 rfl ?_
  refine go_getI' (v := (h.1 82 66)) dX12_puts_12 f12_462 sh82 (fun _ _ => rfl) rfl ?_
  refine go_iconst (v := 1) dX12_puts_15 rfl ?_
  refine go_iadd dX12_puts_16 ?_
  refine go_putI dX12_puts_17 f12_462 sh82 rfl rfl ?_
  exact go_vret dX12_puts_20 rfl vc rfl (Nat.le_refl _) (Nat.le_refl _)
set_option maxRecDepth 20000 in
theorem wX12_joins_0 {p : Program} {l : Launch} {e : Env} {s : State} {m : MethodId} {args : Array Value} {below : List Frame} {meth : Method} {c : Code} {G : gG} {d : Nat} {Q : Option Value → gH → Prop} {h : gH} {lk sp : Nat} {cd : Option Nat} {a1 : Int32} (hR : h.2.2 = gRF lk sp cd) (hlk : lk = 30 ∨ lk = 67) (hsp : sp = 30 ∨ sp = 67)  (vc : (vp_in (((h.1 82 66) - 1)) 1700 ∧ (vp_in (((h.1 82 66) - 2)) 1700 ∧ ((a1 = 1 → gC l G d MX12_clip [.long ((h.2.1 131 (((h.1 82 66) - 2) : Int32).toNatClampNeg) + (h.2.1 131 (((h.1 82 66) - 1) : Int32).toNatClampNeg))] (sI h 82 66 ((h.1 82 66) - 2)) (rL fun v1 h1 => h1.2.2 = ((sI h 82 66 ((h.1 82 66) - 2))).2.2 ∧ gC l G d MX12_puts [.ref 82, .long v1] h1 (rV fun h2 => h2.2.2 = (h1).2.2 ∧ Q none h2))) ∧ (a1 = 2 → gC l G d MX12_clip [.long ((h.2.1 131 (((h.1 82 66) - 2) : Int32).toNatClampNeg) - (h.2.1 131 (((h.1 82 66) - 1) : Int32).toNatClampNeg))] (sI h 82 66 ((h.1 82 66) - 2)) (rL fun v3 h3 => h3.2.2 = ((sI h 82 66 ((h.1 82 66) - 2))).2.2 ∧ gC l G d MX12_puts [.ref 82, .long v3] h3 (rV fun h4 => h4.2.2 = (h3).2.2 ∧ Q none h4))) ∧ (a1 = 3 → gC l G d MX12_clip [.long ((h.2.1 131 (((h.1 82 66) - 2) : Int32).toNatClampNeg) * (h.2.1 131 (((h.1 82 66) - 1) : Int32).toNatClampNeg))] (sI h 82 66 ((h.1 82 66) - 2)) (rL fun v5 h5 => h5.2.2 = ((sI h 82 66 ((h.1 82 66) - 2))).2.2 ∧ gC l G d MX12_puts [.ref 82, .long v5] h5 (rV fun h6 => h6.2.2 = (h5).2.2 ∧ Q none h6))) ∧ (a1 = 4 → gC l G d MX12_floor [.long (h.2.1 131 (((h.1 82 66) - 2) : Int32).toNatClampNeg), .long (h.2.1 131 (((h.1 82 66) - 1) : Int32).toNatClampNeg)] (sI h 82 66 ((h.1 82 66) - 2)) (rL fun v7 h7 => h7.2.2 = ((sI h 82 66 ((h.1 82 66) - 2))).2.2 ∧ gC l G d MX12_puts [.ref 82, .long v7] h7 (rV fun h8 => h8.2.2 = (h7).2.2 ∧ Q none h8))) ∧ (a1 = 5 → ((0 ≤ (lg_cmp (h.2.1 131 (((h.1 82 66) - 2) : Int32).toNatClampNeg) (h.2.1 131 (((h.1 82 66) - 1) : Int32).toNatClampNeg)) → gC l G d MX12_puts [.ref 82, .long (h.2.1 131 (((h.1 82 66) - 1) : Int32).toNatClampNeg)] (sI h 82 66 ((h.1 82 66) - 2)) (rV fun h9 => h9.2.2 = ((sI h 82 66 ((h.1 82 66) - 2))).2.2 ∧ Q none h9)) ∧ (¬ 0 ≤ (lg_cmp (h.2.1 131 (((h.1 82 66) - 2) : Int32).toNatClampNeg) (h.2.1 131 (((h.1 82 66) - 1) : Int32).toNatClampNeg)) → gC l G d MX12_puts [.ref 82, .long (h.2.1 131 (((h.1 82 66) - 2) : Int32).toNatClampNeg)] (sI h 82 66 ((h.1 82 66) - 2)) (rV fun h10 => h10.2.2 = ((sI h 82 66 ((h.1 82 66) - 2))).2.2 ∧ Q none h10)))) ∧ (¬ a1 = 1 → ¬ a1 = 2 → ¬ a1 = 3 → ¬ a1 = 4 → ¬ a1 = 5 → (((lg_cmp (h.2.1 131 (((h.1 82 66) - 2) : Int32).toNatClampNeg) (h.2.1 131 (((h.1 82 66) - 1) : Int32).toNatClampNeg)) ≤ 0 → gC l G d MX12_puts [.ref 82, .long (h.2.1 131 (((h.1 82 66) - 1) : Int32).toNatClampNeg)] (sI h 82 66 ((h.1 82 66) - 2)) (rV fun h11 => h11.2.2 = ((sI h 82 66 ((h.1 82 66) - 2))).2.2 ∧ Q none h11)) ∧ (¬ (lg_cmp (h.2.1 131 (((h.1 82 66) - 2) : Int32).toNatClampNeg) (h.2.1 131 (((h.1 82 66) - 1) : Int32).toNatClampNeg)) ≤ 0 → gC l G d MX12_puts [.ref 82, .long (h.2.1 131 (((h.1 82 66) - 2) : Int32).toNatClampNeg)] (sI h 82 66 ((h.1 82 66) - 2)) (rV fun h12 => h12.2.2 = ((sI h 82 66 ((h.1 82 66) - 2))).2.2 ∧ Q none h12)))))))) : gg p l e s m args below meth c G (d + 1) MX12_joins Q 0 [some (.ref 82), some (.int a1), none, none, none, none] [] h := by
  refine go_aload_n (x := 82) dX12_joins_0 rfl ?_
  refine go_getR (x := 131) dX12_joins_1 f12_160 sh82 (fun _ _ => rfl) (rf82_65 hR) ?_
  refine go_aload_n (x := 82) dX12_joins_4 rfl ?_
  refine go_getI' (v := (h.1 82 66)) dX12_joins_5 f12_462 sh82 (fun _ _ => rfl) rfl ?_
  refine go_iconst (v := 1) dX12_joins_8 rfl ?_
  refine go_isub dX12_joins_9 ?_
  refine go_lald' (v := (h.2.1 131 (((h.1 82 66) - 1) : Int32).toNatClampNeg)) dX12_joins_10 sh131 vc.1 rfl ?_
  have vc := vc.2
  refine go_lstore_n dX12_joins_11 (Nat.le_of_ble_eq_true rfl) ?_
  show gg p l e s m args below meth c G (d + 1) MX12_joins Q 12 [some (.ref 82), some (.int a1), some (.long (h.2.1 131 (((h.1 82 66) - 1) : Int32).toNatClampNeg)), none, none, none] [] h
  refine go_aload_n (x := 82) dX12_joins_12 rfl ?_
  refine go_getR (x := 131) dX12_joins_13 f12_160 sh82 (fun _ _ => rfl) (rf82_65 hR) ?_
  refine go_aload_n (x := 82) dX12_joins_16 rfl ?_
  refine go_getI' (v := (h.1 82 66)) dX12_joins_17 f12_462 sh82 (fun _ _ => rfl) rfl ?_
  refine go_iconst (v := 2) dX12_joins_20 rfl ?_
  refine go_isub dX12_joins_21 ?_
  refine go_lald' (v := (h.2.1 131 (((h.1 82 66) - 2) : Int32).toNatClampNeg)) dX12_joins_22 sh131 vc.1 rfl ?_
  have vc := vc.2
  refine go_lstore dX12_joins_23 (Nat.le_of_ble_eq_true rfl) ?_
  show gg p l e s m args below meth c G (d + 1) MX12_joins Q 25 [some (.ref 82), some (.int a1), some (.long (h.2.1 131 (((h.1 82 66) - 1) : Int32).toNatClampNeg)), none, some (.long (h.2.1 131 (((h.1 82 66) - 2) : Int32).toNatClampNeg)), none] [] h
  refine go_aload_n (x := 82) dX12_joins_25 rfl ?_
  refine go_dup dX12_joins_26 rfl ?_
  refine go_getI' (v := (h.1 82 66)) dX12_joins_27 f12_462 sh82 (fun _ _ => rfl) rfl ?_
  refine go_iconst (v := 2) dX12_joins_30 rfl ?_
  refine go_isub dX12_joins_31 ?_
  refine go_putI dX12_joins_32 f12_462 sh82 rfl rfl ?_
  refine go_iload_n (x := a1) dX12_joins_35 rfl ?_
  by_cases q0 : a1 = 1
  · refine go_tableIn (off := 36) 72 dX12_joins_36 (by rw [q0]; decide) (by rw [q0]; decide) (by rw [q0]; rfl) rfl ?_
    replace vc := vc.1 q0
    refine go_aload_n (x := 82) dX12_joins_72 rfl ?_
    refine go_lload (x := (h.2.1 131 (((h.1 82 66) - 2) : Int32).toNatClampNeg)) dX12_joins_73 rfl ?_
    refine go_lload_n (x := (h.2.1 131 (((h.1 82 66) - 1) : Int32).toNatClampNeg)) dX12_joins_75 rfl ?_
    refine go_ladd dX12_joins_76 ?_
    refine gsL1 MX12_clip dX12_joins_77 lX12_465 kX12_clip sX12_clip (Nat.le_of_ble_eq_true rfl) vc ?_
    intro v1 h1 vc
    obtain ⟨hR1, vc⟩ := vc
    replace hR := hR1.trans hR
    refine gvV1 MX12_puts dX12_joins_80 lX12_469 kX12_puts vX12_puts sh82 (by decide) rfl (Nat.le_of_ble_eq_true rfl) vc ?_
    intro h2 vc
    obtain ⟨hR2, vc⟩ := vc
    replace hR := hR2.trans hR
    refine go_goto 164 dX12_joins_83 rfl ?_
    exact go_vret dX12_joins_164 rfl vc rfl (Nat.le_refl _) (Nat.le_refl _)
  by_cases q1 : a1 = 2
  · refine go_tableIn (off := 50) 86 dX12_joins_36 (by rw [q1]; decide) (by rw [q1]; decide) (by rw [q1]; rfl) rfl ?_
    replace vc := vc.2.1 q1
    refine go_aload_n (x := 82) dX12_joins_86 rfl ?_
    refine go_lload (x := (h.2.1 131 (((h.1 82 66) - 2) : Int32).toNatClampNeg)) dX12_joins_87 rfl ?_
    refine go_lload_n (x := (h.2.1 131 (((h.1 82 66) - 1) : Int32).toNatClampNeg)) dX12_joins_89 rfl ?_
    refine go_lsub dX12_joins_90 ?_
    refine gsL1 MX12_clip dX12_joins_91 lX12_465 kX12_clip sX12_clip (Nat.le_of_ble_eq_true rfl) vc ?_
    intro v3 h3 vc
    obtain ⟨hR3, vc⟩ := vc
    replace hR := hR3.trans hR
    refine gvV1 MX12_puts dX12_joins_94 lX12_469 kX12_puts vX12_puts sh82 (by decide) rfl (Nat.le_of_ble_eq_true rfl) vc ?_
    intro h4 vc
    obtain ⟨hR4, vc⟩ := vc
    replace hR := hR4.trans hR
    refine go_goto 164 dX12_joins_97 rfl ?_
    exact go_vret dX12_joins_164 rfl vc rfl (Nat.le_refl _) (Nat.le_refl _)
  by_cases q2 : a1 = 3
  · refine go_tableIn (off := 64) 100 dX12_joins_36 (by rw [q2]; decide) (by rw [q2]; decide) (by rw [q2]; rfl) rfl ?_
    replace vc := vc.2.2.1 q2
    refine go_aload_n (x := 82) dX12_joins_100 rfl ?_
    refine go_lload (x := (h.2.1 131 (((h.1 82 66) - 2) : Int32).toNatClampNeg)) dX12_joins_101 rfl ?_
    refine go_lload_n (x := (h.2.1 131 (((h.1 82 66) - 1) : Int32).toNatClampNeg)) dX12_joins_103 rfl ?_
    refine go_lmul dX12_joins_104 ?_
    refine gsL1 MX12_clip dX12_joins_105 lX12_465 kX12_clip sX12_clip (Nat.le_of_ble_eq_true rfl) vc ?_
    intro v5 h5 vc
    obtain ⟨hR5, vc⟩ := vc
    replace hR := hR5.trans hR
    refine gvV1 MX12_puts dX12_joins_108 lX12_469 kX12_puts vX12_puts sh82 (by decide) rfl (Nat.le_of_ble_eq_true rfl) vc ?_
    intro h6 vc
    obtain ⟨hR6, vc⟩ := vc
    replace hR := hR6.trans hR
    refine go_goto 164 dX12_joins_111 rfl ?_
    exact go_vret dX12_joins_164 rfl vc rfl (Nat.le_refl _) (Nat.le_refl _)
  by_cases q3 : a1 = 4
  · refine go_tableIn (off := 78) 114 dX12_joins_36 (by rw [q3]; decide) (by rw [q3]; decide) (by rw [q3]; rfl) rfl ?_
    replace vc := vc.2.2.2.1 q3
    refine go_aload_n (x := 82) dX12_joins_114 rfl ?_
    refine go_lload (x := (h.2.1 131 (((h.1 82 66) - 2) : Int32).toNatClampNeg)) dX12_joins_115 rfl ?_
    refine go_lload_n (x := (h.2.1 131 (((h.1 82 66) - 1) : Int32).toNatClampNeg)) dX12_joins_117 rfl ?_
    refine gsL2 MX12_floor dX12_joins_118 lX12_473 kX12_floor sX12_floor (Nat.le_of_ble_eq_true rfl) vc ?_
    intro v7 h7 vc
    obtain ⟨hR7, vc⟩ := vc
    replace hR := hR7.trans hR
    refine gvV1 MX12_puts dX12_joins_121 lX12_469 kX12_puts vX12_puts sh82 (by decide) rfl (Nat.le_of_ble_eq_true rfl) vc ?_
    intro h8 vc
    obtain ⟨hR8, vc⟩ := vc
    replace hR := hR8.trans hR
    refine go_goto 164 dX12_joins_124 rfl ?_
    exact go_vret dX12_joins_164 rfl vc rfl (Nat.le_refl _) (Nat.le_refl _)
  by_cases q4 : a1 = 5
  · refine go_tableIn (off := 91) 127 dX12_joins_36 (by rw [q4]; decide) (by rw [q4]; decide) (by rw [q4]; rfl) rfl ?_
    replace vc := vc.2.2.2.2.1 q4
    refine go_aload_n (x := 82) dX12_joins_127 rfl ?_
    refine go_lload (x := (h.2.1 131 (((h.1 82 66) - 2) : Int32).toNatClampNeg)) dX12_joins_128 rfl ?_
    refine go_lload_n (x := (h.2.1 131 (((h.1 82 66) - 1) : Int32).toNatClampNeg)) dX12_joins_130 rfl ?_
    refine go_lcmp dX12_joins_131 ?_
    refine go_if_ge 140 dX12_joins_132 rfl (fun q => ?_) (fun q => ?_)
    · replace vc := vc.1 q
      refine go_lload_n (x := (h.2.1 131 (((h.1 82 66) - 1) : Int32).toNatClampNeg)) dX12_joins_140 rfl ?_
      refine gvV1 MX12_puts dX12_joins_141 lX12_469 kX12_puts vX12_puts sh82 (by decide) rfl (Nat.le_of_ble_eq_true rfl) vc ?_
      intro h9 vc
      obtain ⟨hR9, vc⟩ := vc
      replace hR := hR9.trans hR
      refine go_goto 164 dX12_joins_144 rfl ?_
      exact go_vret dX12_joins_164 rfl vc rfl (Nat.le_refl _) (Nat.le_refl _)
    · replace vc := vc.2 q
      refine go_lload (x := (h.2.1 131 (((h.1 82 66) - 2) : Int32).toNatClampNeg)) dX12_joins_135 rfl ?_
      refine go_goto 141 dX12_joins_137 rfl ?_
      refine gvV1 MX12_puts dX12_joins_141 lX12_469 kX12_puts vX12_puts sh82 (by decide) rfl (Nat.le_of_ble_eq_true rfl) vc ?_
      intro h10 vc
      obtain ⟨hR10, vc⟩ := vc
      replace hR := hR10.trans hR
      refine go_goto 164 dX12_joins_144 rfl ?_
      exact go_vret dX12_joins_164 rfl vc rfl (Nat.le_refl _) (Nat.le_refl _)
  replace vc := vc.2.2.2.2.2 q0 q1 q2 q3 q4
  refine go_tableOut 147 dX12_joins_36 ?_ rfl ?_
  · have e0 : ¬ (a1).toInt = 1 := lv_neT q0 rfl; have e1 : ¬ (a1).toInt = 2 := lv_neT q1 rfl; have e2 : ¬ (a1).toInt = 3 := lv_neT q2 rfl; have e3 : ¬ (a1).toInt = 4 := lv_neT q3 rfl; have e4 : ¬ (a1).toInt = 5 := lv_neT q4 rfl
    omega
  refine go_aload_n (x := 82) dX12_joins_147 rfl ?_
  refine go_lload (x := (h.2.1 131 (((h.1 82 66) - 2) : Int32).toNatClampNeg)) dX12_joins_148 rfl ?_
  refine go_lload_n (x := (h.2.1 131 (((h.1 82 66) - 1) : Int32).toNatClampNeg)) dX12_joins_150 rfl ?_
  refine go_lcmp dX12_joins_151 ?_
  refine go_if_le 160 dX12_joins_152 rfl (fun q => ?_) (fun q => ?_)
  · replace vc := vc.1 q
    refine go_lload_n (x := (h.2.1 131 (((h.1 82 66) - 1) : Int32).toNatClampNeg)) dX12_joins_160 rfl ?_
    refine gvV1 MX12_puts dX12_joins_161 lX12_469 kX12_puts vX12_puts sh82 (by decide) rfl (Nat.le_of_ble_eq_true rfl) vc ?_
    intro h11 vc
    obtain ⟨hR11, vc⟩ := vc
    replace hR := hR11.trans hR
    exact go_vret dX12_joins_164 rfl vc rfl (Nat.le_refl _) (Nat.le_refl _)
  · replace vc := vc.2 q
    refine go_lload (x := (h.2.1 131 (((h.1 82 66) - 2) : Int32).toNatClampNeg)) dX12_joins_155 rfl ?_
    refine go_goto 161 dX12_joins_157 rfl ?_
    refine gvV1 MX12_puts dX12_joins_161 lX12_469 kX12_puts vX12_puts sh82 (by decide) rfl (Nat.le_of_ble_eq_true rfl) vc ?_
    intro h12 vc
    obtain ⟨hR12, vc⟩ := vc
    replace hR := hR12.trans hR
    exact go_vret dX12_joins_164 rfl vc rfl (Nat.le_refl _) (Nat.le_refl _)
set_option maxRecDepth 20000 in
theorem wX12_columns_0 {p : Program} {l : Launch} {e : Env} {s : State} {m : MethodId} {args : Array Value} {below : List Frame} {meth : Method} {c : Code} {G : gG} {d : Nat} {Q : Option Value → gH → Prop} {h : gH} {lk sp : Nat} {cd : Option Nat}  (hR : h.2.2 = gRF lk sp cd) (hlk : lk = 30 ∨ lk = 67) (hsp : sp = 30 ∨ sp = 67)  (vc : Q (some (.int (h.1 119 5))) h) : gg p l e s m args below meth c G d MX12_columns Q 0 [some (.ref 82)] [] h := by
  refine go_aload_n (x := 82) dX12_columns_0 rfl ?_
  refine go_getR (x := 119) dX12_columns_1 f12_123 sh82 (fun _ _ => rfl) (rf82_46 hR) ?_
  refine go_iconst (v := 5) dX12_columns_4 rfl ?_
  refine go_iald' (v := (h.1 119 5)) dX12_columns_5 sh119 (by unfold vp_in; decide) rfl ?_
  exact go_iret dX12_columns_6 rfl vc rfl (Nat.le_refl _) (Nat.le_refl _)
set_option maxRecDepth 20000 in
theorem wX12_cellMany_0 {p : Program} {l : Launch} {e : Env} {s : State} {m : MethodId} {args : Array Value} {below : List Frame} {meth : Method} {c : Code} {G : gG} {d : Nat} {Q : Option Value → gH → Prop} {h : gH} {lk sp : Nat} {cd : Option Nat}  (hR : h.2.2 = gRF lk sp cd) (hlk : lk = 30 ∨ lk = 67) (hsp : sp = 30 ∨ sp = 67)  (vc : gC l G d MX12_columns [.ref 82] h (rI fun v1 h1 => h1.2.2 = (h).2.2 ∧ Q (some (.int (v1 * (h1.1 119 6)))) h1)) : gg p l e s m args below meth c G (d + 1) MX12_cellMany Q 0 [some (.ref 82)] [] h := by
  refine go_aload_n (x := 82) dX12_cellMany_0 rfl ?_
  refine gvI0 MX12_columns dX12_cellMany_1 lX12_477 kX12_columns vX12_columns sh82 (by decide) rfl (Nat.le_of_ble_eq_true rfl) vc ?_
  intro v1 h1 vc
  obtain ⟨hR1, vc⟩ := vc
  replace hR := hR1.trans hR
  refine go_aload_n (x := 82) dX12_cellMany_4 rfl ?_
  refine go_getR (x := 119) dX12_cellMany_5 f12_123 sh82 (fun _ _ => rfl) (rf82_46 hR) ?_
  refine go_bipush (v := 6) dX12_cellMany_8 rfl ?_
  refine go_iald' (v := (h1.1 119 6)) dX12_cellMany_10 sh119 (by unfold vp_in; decide) rfl ?_
  refine go_imul dX12_cellMany_11 ?_
  exact go_iret dX12_cellMany_12 rfl vc rfl (Nat.le_refl _) (Nat.le_refl _)
set_option maxRecDepth 20000 in
theorem wX12_boatMany_0 {p : Program} {l : Launch} {e : Env} {s : State} {m : MethodId} {args : Array Value} {below : List Frame} {meth : Method} {c : Code} {G : gG} {d : Nat} {Q : Option Value → gH → Prop} {h : gH} {lk sp : Nat} {cd : Option Nat}  (hR : h.2.2 = gRF lk sp cd) (hlk : lk = 30 ∨ lk = 67) (hsp : sp = 30 ∨ sp = 67)  (vc : Q (some (.int (h.1 119 7))) h) : gg p l e s m args below meth c G d MX12_boatMany Q 0 [some (.ref 82)] [] h := by
  refine go_aload_n (x := 82) dX12_boatMany_0 rfl ?_
  refine go_getR (x := 119) dX12_boatMany_1 f12_123 sh82 (fun _ _ => rfl) (rf82_46 hR) ?_
  refine go_bipush (v := 7) dX12_boatMany_4 rfl ?_
  refine go_iald' (v := (h.1 119 7)) dX12_boatMany_6 sh119 (by unfold vp_in; decide) rfl ?_
  exact go_iret dX12_boatMany_7 rfl vc rfl (Nat.le_refl _) (Nat.le_refl _)
set_option maxRecDepth 20000 in
theorem wX12_handMany_0 {p : Program} {l : Launch} {e : Env} {s : State} {m : MethodId} {args : Array Value} {below : List Frame} {meth : Method} {c : Code} {G : gG} {d : Nat} {Q : Option Value → gH → Prop} {h : gH} {lk sp : Nat} {cd : Option Nat}  (hR : h.2.2 = gRF lk sp cd) (hlk : lk = 30 ∨ lk = 67) (hsp : sp = 30 ∨ sp = 67)  (vc : Q (some (.int (h.1 119 8))) h) : gg p l e s m args below meth c G d MX12_handMany Q 0 [some (.ref 82)] [] h := by
  refine go_aload_n (x := 82) dX12_handMany_0 rfl ?_
  refine go_getR (x := 119) dX12_handMany_1 f12_123 sh82 (fun _ _ => rfl) (rf82_46 hR) ?_
  refine go_bipush (v := 8) dX12_handMany_4 rfl ?_
  refine go_iald' (v := (h.1 119 8)) dX12_handMany_6 sh119 (by unfold vp_in; decide) rfl ?_
  exact go_iret dX12_handMany_7 rfl vc rfl (Nat.le_refl _) (Nat.le_refl _)
set_option maxRecDepth 20000 in
theorem wX12_isCell_0 {p : Program} {l : Launch} {e : Env} {s : State} {m : MethodId} {args : Array Value} {below : List Frame} {meth : Method} {c : Code} {G : gG} {d : Nat} {Q : Option Value → gH → Prop} {h : gH} {lk sp : Nat} {cd : Option Nat} {a1 : Int32} (hR : h.2.2 = gRF lk sp cd) (hlk : lk = 30 ∨ lk = 67) (hsp : sp = 30 ∨ sp = 67)  (vc : gC l G d MX12_cellMany [.ref 82] h (rI fun v1 h1 => h1.2.2 = (h).2.2 ∧ gC l G d MX12_isIn [.long (a1 : Int32).toInt64, .long 0, .long ((v1 - 1) : Int32).toInt64] h1 (rI fun v2 h2 => h2.2.2 = (h1).2.2 ∧ ((v2 = 0 ∨ v2 = 1) ∧ Q (some (.int v2)) h2)))) : gg p l e s m args below meth c G (d + 1) MX12_isCell Q 0 [some (.ref 82), some (.int a1)] [] h := by
  refine go_iload_n (x := a1) dX12_isCell_0 rfl ?_
  refine go_i2l dX12_isCell_1 ?_
  refine go_lconst (v := 0) dX12_isCell_2 rfl ?_
  refine go_aload_n (x := 82) dX12_isCell_3 rfl ?_
  refine gvI0 MX12_cellMany dX12_isCell_4 lX12_480 kX12_cellMany vX12_cellMany sh82 (by decide) rfl (Nat.le_of_ble_eq_true rfl) vc ?_
  intro v1 h1 vc
  obtain ⟨hR1, vc⟩ := vc
  replace hR := hR1.trans hR
  refine go_iconst (v := 1) dX12_isCell_7 rfl ?_
  refine go_isub dX12_isCell_8 ?_
  refine go_i2l dX12_isCell_9 ?_
  refine gsI3 MX12_isIn dX12_isCell_10 lX12_321 kX12_isIn sX12_isIn (Nat.le_of_ble_eq_true rfl) vc ?_
  intro v2 h2 vc
  obtain ⟨hR2, vc⟩ := vc
  replace hR := hR2.trans hR
  exact go_zret dX12_isCell_13 rfl vc.1 vc.2 rfl (Nat.le_refl _) (Nat.le_refl _)
set_option maxRecDepth 20000 in
theorem wX12_isBoat_0 {p : Program} {l : Launch} {e : Env} {s : State} {m : MethodId} {args : Array Value} {below : List Frame} {meth : Method} {c : Code} {G : gG} {d : Nat} {Q : Option Value → gH → Prop} {h : gH} {lk sp : Nat} {cd : Option Nat} {a1 : Int32} (hR : h.2.2 = gRF lk sp cd) (hlk : lk = 30 ∨ lk = 67) (hsp : sp = 30 ∨ sp = 67)  (vc : gC l G d MX12_boatMany [.ref 82] h (rI fun v1 h1 => h1.2.2 = (h).2.2 ∧ gC l G d MX12_isIn [.long (a1 : Int32).toInt64, .long 0, .long ((v1 - 1) : Int32).toInt64] h1 (rI fun v2 h2 => h2.2.2 = (h1).2.2 ∧ ((v2 = 0 ∨ v2 = 1) ∧ Q (some (.int v2)) h2)))) : gg p l e s m args below meth c G (d + 1) MX12_isBoat Q 0 [some (.ref 82), some (.int a1)] [] h := by
  refine go_iload_n (x := a1) dX12_isBoat_0 rfl ?_
  refine go_i2l dX12_isBoat_1 ?_
  refine go_lconst (v := 0) dX12_isBoat_2 rfl ?_
  refine go_aload_n (x := 82) dX12_isBoat_3 rfl ?_
  refine gvI0 MX12_boatMany dX12_isBoat_4 lX12_483 kX12_boatMany vX12_boatMany sh82 (by decide) rfl (Nat.le_of_ble_eq_true rfl) vc ?_
  intro v1 h1 vc
  obtain ⟨hR1, vc⟩ := vc
  replace hR := hR1.trans hR
  refine go_iconst (v := 1) dX12_isBoat_7 rfl ?_
  refine go_isub dX12_isBoat_8 ?_
  refine go_i2l dX12_isBoat_9 ?_
  refine gsI3 MX12_isIn dX12_isBoat_10 lX12_321 kX12_isIn sX12_isIn (Nat.le_of_ble_eq_true rfl) vc ?_
  intro v2 h2 vc
  obtain ⟨hR2, vc⟩ := vc
  replace hR := hR2.trans hR
  exact go_zret dX12_isBoat_13 rfl vc.1 vc.2 rfl (Nat.le_refl _) (Nat.le_refl _)
set_option maxRecDepth 20000 in
theorem wX12_kindAt_0 {p : Program} {l : Launch} {e : Env} {s : State} {m : MethodId} {args : Array Value} {below : List Frame} {meth : Method} {c : Code} {G : gG} {d : Nat} {Q : Option Value → gH → Prop} {h : gH} {lk sp : Nat} {cd : Option Nat} {a1 : Int32} (hR : h.2.2 = gRF lk sp cd) (hlk : lk = 30 ∨ lk = 67) (hsp : sp = 30 ∨ sp = 67)  (vc : gC l G d MX12_columns [.ref 82] h (rI fun v1 h1 => h1.2.2 = (h).2.2 ∧ (¬ v1 = 0 ∧ gC l G d MX12_columns [.ref 82] h1 (rI fun v2 h2 => h2.2.2 = (h1).2.2 ∧ (¬ v2 = 0 ∧ (vp_in (((48 + (8 * (a1 / v1))) + (a1 - a1 / v2 * v2))) 96 ∧ Q (some (.int (h2.1 121 (((48 + (8 * (a1 / v1))) + (a1 - a1 / v2 * v2)) : Int32).toNatClampNeg))) h2)))))) : gg p l e s m args below meth c G (d + 1) MX12_kindAt Q 0 [some (.ref 82), some (.int a1)] [] h := by
  refine go_aload_n (x := 82) dX12_kindAt_0 rfl ?_
  refine go_getR (x := 121) dX12_kindAt_1 f12_130 sh82 (fun _ _ => rfl) (rf82_48 hR) ?_
  refine go_bipush (v := 48) dX12_kindAt_4 rfl ?_
  refine go_bipush (v := 8) dX12_kindAt_6 rfl ?_
  refine go_iload_n (x := a1) dX12_kindAt_8 rfl ?_
  refine go_aload_n (x := 82) dX12_kindAt_9 rfl ?_
  refine gvI0 MX12_columns dX12_kindAt_10 lX12_477 kX12_columns vX12_columns sh82 (by decide) rfl (Nat.le_of_ble_eq_true rfl) vc ?_
  intro v1 h1 vc
  obtain ⟨hR1, vc⟩ := vc
  replace hR := hR1.trans hR
  refine go_idiv dX12_kindAt_13 vc.1 ?_
  have vc := vc.2
  refine go_imul dX12_kindAt_14 ?_
  refine go_iadd dX12_kindAt_15 ?_
  refine go_iload_n (x := a1) dX12_kindAt_16 rfl ?_
  refine go_aload_n (x := 82) dX12_kindAt_17 rfl ?_
  refine gvI0 MX12_columns dX12_kindAt_18 lX12_477 kX12_columns vX12_columns sh82 (by decide) rfl (Nat.le_of_ble_eq_true rfl) vc ?_
  intro v2 h2 vc
  obtain ⟨hR2, vc⟩ := vc
  replace hR := hR2.trans hR
  refine go_irem dX12_kindAt_21 vc.1 ?_
  have vc := vc.2
  refine go_iadd dX12_kindAt_22 ?_
  refine go_iald' (v := (h2.1 121 (((48 + (8 * (a1 / v1))) + (a1 - a1 / v2 * v2)) : Int32).toNatClampNeg)) dX12_kindAt_23 sh121 vc.1 rfl ?_
  have vc := vc.2
  exact go_iret dX12_kindAt_24 rfl vc rfl (Nat.le_refl _) (Nat.le_refl _)
set_option maxRecDepth 20000 in
theorem wX12_isLand_0 {p : Program} {l : Launch} {e : Env} {s : State} {m : MethodId} {args : Array Value} {below : List Frame} {meth : Method} {c : Code} {G : gG} {d : Nat} {Q : Option Value → gH → Prop} {h : gH} {lk sp : Nat} {cd : Option Nat} {a1 : Int32} (hR : h.2.2 = gRF lk sp cd) (hlk : lk = 30 ∨ lk = 67) (hsp : sp = 30 ∨ sp = 67)  (vc : gC l G d MX12_kindAt [.ref 82, .int a1] h (rI fun v1 h1 => h1.2.2 = (h).2.2 ∧ ((¬ v1 = 9 → Q (some (.int 0)) h1) ∧ (v1 = 9 → Q (some (.int 1)) h1)))) : gg p l e s m args below meth c G (d + 1) MX12_isLand Q 0 [some (.ref 82), some (.int a1)] [] h := by
  refine go_aload_n (x := 82) dX12_isLand_0 rfl ?_
  refine go_iload_n (x := a1) dX12_isLand_1 rfl ?_
  refine gvI1 MX12_kindAt dX12_isLand_2 lX12_486 kX12_kindAt vX12_kindAt sh82 (by decide) rfl (Nat.le_of_ble_eq_true rfl) vc ?_
  intro v1 h1 vc
  obtain ⟨hR1, vc⟩ := vc
  replace hR := hR1.trans hR
  refine go_bipush (v := 9) dX12_isLand_5 rfl ?_
  refine go_icmp_ne 14 dX12_isLand_7 rfl (fun q => ?_) (fun q => ?_)
  · replace vc := vc.1 q
    refine go_iconst (v := 0) dX12_isLand_14 rfl ?_
    exact go_zret dX12_isLand_15 rfl (by decide) vc rfl (Nat.le_refl _) (Nat.le_refl _)
  · replace vc := vc.2 q
    refine go_iconst (v := 1) dX12_isLand_10 rfl ?_
    refine go_goto 15 dX12_isLand_11 rfl ?_
    exact go_zret dX12_isLand_15 rfl (by decide) vc rfl (Nat.le_refl _) (Nat.le_refl _)
set_option maxRecDepth 20000 in
theorem wX12_isWater_0 {p : Program} {l : Launch} {e : Env} {s : State} {m : MethodId} {args : Array Value} {below : List Frame} {meth : Method} {c : Code} {G : gG} {d : Nat} {Q : Option Value → gH → Prop} {h : gH} {lk sp : Nat} {cd : Option Nat} {a1 : Int32} (hR : h.2.2 = gRF lk sp cd) (hlk : lk = 30 ∨ lk = 67) (hsp : sp = 30 ∨ sp = 67)  (vc : gC l G d MX12_isCell [.ref 82, .int a1] h (rI fun v1 h1 => h1.2.2 = (h).2.2 ∧ ((v1 = 0 → Q (some (.int 0)) h1) ∧ (¬ v1 = 0 → gC l G d MX12_isLand [.ref 82, .int a1] h1 (rI fun v2 h2 => h2.2.2 = (h1).2.2 ∧ ((¬ v2 = 0 → Q (some (.int 0)) h2) ∧ (v2 = 0 → Q (some (.int 1)) h2))))))) : gg p l e s m args below meth c G (d + 1) MX12_isWater Q 0 [some (.ref 82), some (.int a1)] [] h := by
  refine go_aload_n (x := 82) dX12_isWater_0 rfl ?_
  refine go_iload_n (x := a1) dX12_isWater_1 rfl ?_
  refine gvI1 MX12_isCell dX12_isWater_2 lX12_489 kX12_isCell vX12_isCell sh82 (by decide) rfl (Nat.le_of_ble_eq_true rfl) vc ?_
  intro v1 h1 vc
  obtain ⟨hR1, vc⟩ := vc
  replace hR := hR1.trans hR
  refine go_if_eq 20 dX12_isWater_5 rfl (fun q => ?_) (fun q => ?_)
  · replace vc := vc.1 q
    refine go_iconst (v := 0) dX12_isWater_20 rfl ?_
    exact go_zret dX12_isWater_21 rfl (by decide) vc rfl (Nat.le_refl _) (Nat.le_refl _)
  · replace vc := vc.2 q
    refine go_aload_n (x := 82) dX12_isWater_8 rfl ?_
    refine go_iload_n (x := a1) dX12_isWater_9 rfl ?_
    refine gvI1 MX12_isLand dX12_isWater_10 lX12_492 kX12_isLand vX12_isLand sh82 (by decide) rfl (Nat.le_of_ble_eq_true rfl) vc ?_
    intro v2 h2 vc
    obtain ⟨hR2, vc⟩ := vc
    replace hR := hR2.trans hR
    refine go_if_ne 20 dX12_isWater_13 rfl (fun q => ?_) (fun q => ?_)
    · replace vc := vc.1 q
      refine go_iconst (v := 0) dX12_isWater_20 rfl ?_
      exact go_zret dX12_isWater_21 rfl (by decide) vc rfl (Nat.le_refl _) (Nat.le_refl _)
    · replace vc := vc.2 q
      refine go_iconst (v := 1) dX12_isWater_16 rfl ?_
      refine go_goto 21 dX12_isWater_17 rfl ?_
      exact go_zret dX12_isWater_21 rfl (by decide) vc rfl (Nat.le_refl _) (Nat.le_refl _)
set_option maxRecDepth 20000 in
theorem wX12_isWreck_0 {p : Program} {l : Launch} {e : Env} {s : State} {m : MethodId} {args : Array Value} {below : List Frame} {meth : Method} {c : Code} {G : gG} {d : Nat} {Q : Option Value → gH → Prop} {h : gH} {lk sp : Nat} {cd : Option Nat} {a1 : Int32} (hR : h.2.2 = gRF lk sp cd) (hlk : lk = 30 ∨ lk = 67) (hsp : sp = 30 ∨ sp = 67)  (vc : gC l G d MX12_kindAt [.ref 82, .int a1] h (rI fun v1 h1 => h1.2.2 = (h).2.2 ∧ ((¬ v1 = 3 → Q (some (.int 0)) h1) ∧ (v1 = 3 → Q (some (.int 1)) h1)))) : gg p l e s m args below meth c G (d + 1) MX12_isWreck Q 0 [some (.ref 82), some (.int a1)] [] h := by
  refine go_aload_n (x := 82) dX12_isWreck_0 rfl ?_
  refine go_iload_n (x := a1) dX12_isWreck_1 rfl ?_
  refine gvI1 MX12_kindAt dX12_isWreck_2 lX12_486 kX12_kindAt vX12_kindAt sh82 (by decide) rfl (Nat.le_of_ble_eq_true rfl) vc ?_
  intro v1 h1 vc
  obtain ⟨hR1, vc⟩ := vc
  replace hR := hR1.trans hR
  refine go_iconst (v := 3) dX12_isWreck_5 rfl ?_
  refine go_icmp_ne 13 dX12_isWreck_6 rfl (fun q => ?_) (fun q => ?_)
  · replace vc := vc.1 q
    refine go_iconst (v := 0) dX12_isWreck_13 rfl ?_
    exact go_zret dX12_isWreck_14 rfl (by decide) vc rfl (Nat.le_refl _) (Nat.le_refl _)
  · replace vc := vc.2 q
    refine go_iconst (v := 1) dX12_isWreck_9 rfl ?_
    refine go_goto 14 dX12_isWreck_10 rfl ?_
    exact go_zret dX12_isWreck_14 rfl (by decide) vc rfl (Nat.le_refl _) (Nat.le_refl _)
set_option maxRecDepth 20000 in
theorem wX12_depthOf_0 {p : Program} {l : Launch} {e : Env} {s : State} {m : MethodId} {args : Array Value} {below : List Frame} {meth : Method} {c : Code} {G : gG} {d : Nat} {Q : Option Value → gH → Prop} {h : gH} {lk sp : Nat} {cd : Option Nat} {a1 : Int32} (hR : h.2.2 = gRF lk sp cd) (hlk : lk = 30 ∨ lk = 67) (hsp : sp = 30 ∨ sp = 67)  (vc : gC l G d MX12_isWreck [.ref 82, .int a1] h (rI fun v1 h1 => h1.2.2 = (h).2.2 ∧ ((v1 = 0 → gC l G d MX12_kindAt [.ref 82, .int a1] h1 (rI fun v2 h2 => h2.2.2 = (h1).2.2 ∧ Q (some (.int v2)) h2)) ∧ (¬ v1 = 0 → Q (some (.int 2)) h1)))) : gg p l e s m args below meth c G (d + 1) MX12_depthOf Q 0 [some (.ref 82), some (.int a1)] [] h := by
  refine go_aload_n (x := 82) dX12_depthOf_0 rfl ?_
  refine go_iload_n (x := a1) dX12_depthOf_1 rfl ?_
  refine gvI1 MX12_isWreck dX12_depthOf_2 lX12_495 kX12_isWreck vX12_isWreck sh82 (by decide) rfl (Nat.le_of_ble_eq_true rfl) vc ?_
  intro v1 h1 vc
  obtain ⟨hR1, vc⟩ := vc
  replace hR := hR1.trans hR
  refine go_if_eq 12 dX12_depthOf_5 rfl (fun q => ?_) (fun q => ?_)
  · replace vc := vc.1 q
    refine go_aload_n (x := 82) dX12_depthOf_12 rfl ?_
    refine go_iload_n (x := a1) dX12_depthOf_13 rfl ?_
    refine gvI1 MX12_kindAt dX12_depthOf_14 lX12_486 kX12_kindAt vX12_kindAt sh82 (by decide) rfl (Nat.le_of_ble_eq_true rfl) vc ?_
    intro v2 h2 vc
    obtain ⟨hR2, vc⟩ := vc
    replace hR := hR2.trans hR
    exact go_iret dX12_depthOf_17 rfl vc rfl (Nat.le_refl _) (Nat.le_refl _)
  · replace vc := vc.2 q
    refine go_iconst (v := 2) dX12_depthOf_8 rfl ?_
    refine go_goto 17 dX12_depthOf_9 rfl ?_
    exact go_iret dX12_depthOf_17 rfl vc rfl (Nat.le_refl _) (Nat.le_refl _)
set_option maxRecDepth 20000 in
theorem wX12_size_0 {p : Program} {l : Launch} {e : Env} {s : State} {m : MethodId} {args : Array Value} {below : List Frame} {meth : Method} {c : Code} {G : gG} {d : Nat} {Q : Option Value → gH → Prop} {h : gH} {lk sp : Nat} {cd : Option Nat} {a1 : Int32} (hR : h.2.2 = gRF lk sp cd) (hlk : lk = 30 ∨ lk = 67) (hsp : sp = 30 ∨ sp = 67)  (vc : ((0 ≤ a1 → Q (some (.int a1)) h) ∧ (¬ 0 ≤ a1 → Q (some (.int (-a1))) h))) : gg p l e s m args below meth c G d MX12_size Q 0 [some (.int a1)] [] h := by
  refine go_iload_n (x := a1) dX12_size_0 rfl ?_
  refine go_if_ge 9 dX12_size_1 rfl (fun q => ?_) (fun q => ?_)
  · replace vc := vc.1 q
    refine go_iload_n (x := a1) dX12_size_9 rfl ?_
    exact go_iret dX12_size_10 rfl vc rfl (Nat.le_refl _) (Nat.le_refl _)
  · replace vc := vc.2 q
    refine go_iload_n (x := a1) dX12_size_4 rfl ?_
    refine go_ineg dX12_size_5 ?_
    refine go_goto 10 dX12_size_6 rfl ?_
    exact go_iret dX12_size_10 rfl vc rfl (Nat.le_refl _) (Nat.le_refl _)
set_option maxRecDepth 20000 in
theorem wX12_offOf_0 {p : Program} {l : Launch} {e : Env} {s : State} {m : MethodId} {args : Array Value} {below : List Frame} {meth : Method} {c : Code} {G : gG} {d : Nat} {Q : Option Value → gH → Prop} {h : gH} {lk sp : Nat} {cd : Option Nat} {a1 : Int32} {a2 : Int32} (hR : h.2.2 = gRF lk sp cd) (hlk : lk = 30 ∨ lk = 67) (hsp : sp = 30 ∨ sp = 67)  (vc : gC l G d MX12_columns [.ref 82] h (rI fun v1 h1 => h1.2.2 = (h).2.2 ∧ (¬ v1 = 0 ∧ gC l G d MX12_columns [.ref 82] h1 (rI fun v2 h2 => h2.2.2 = (h1).2.2 ∧ (¬ v2 = 0 ∧ gC l G d MX12_size [.int ((a1 - a1 / v1 * v1) - (a2 - a2 / v2 * v2))] h2 (rI fun v3 h3 => h3.2.2 = (h2).2.2 ∧ gC l G d MX12_columns [.ref 82] h3 (rI fun v4 h4 => h4.2.2 = (h3).2.2 ∧ (¬ v4 = 0 ∧ gC l G d MX12_columns [.ref 82] h4 (rI fun v5 h5 => h5.2.2 = (h4).2.2 ∧ (¬ v5 = 0 ∧ gC l G d MX12_size [.int ((a1 / v4) - (a2 / v5))] h5 (rI fun v6 h6 => h6.2.2 = (h5).2.2 ∧ Q (some (.int (v3 + v6))) h6))))))))))) : gg p l e s m args below meth c G (d + 1) MX12_offOf Q 0 [some (.ref 82), some (.int a1), some (.int a2)] [] h := by
  refine go_iload_n (x := a1) dX12_offOf_0 rfl ?_
  refine go_aload_n (x := 82) dX12_offOf_1 rfl ?_
  refine gvI0 MX12_columns dX12_offOf_2 lX12_477 kX12_columns vX12_columns sh82 (by decide) rfl (Nat.le_of_ble_eq_true rfl) vc ?_
  intro v1 h1 vc
  obtain ⟨hR1, vc⟩ := vc
  replace hR := hR1.trans hR
  refine go_irem dX12_offOf_5 vc.1 ?_
  have vc := vc.2
  refine go_iload_n (x := a2) dX12_offOf_6 rfl ?_
  refine go_aload_n (x := 82) dX12_offOf_7 rfl ?_
  refine gvI0 MX12_columns dX12_offOf_8 lX12_477 kX12_columns vX12_columns sh82 (by decide) rfl (Nat.le_of_ble_eq_true rfl) vc ?_
  intro v2 h2 vc
  obtain ⟨hR2, vc⟩ := vc
  replace hR := hR2.trans hR
  refine go_irem dX12_offOf_11 vc.1 ?_
  have vc := vc.2
  refine go_isub dX12_offOf_12 ?_
  refine gsI1 MX12_size dX12_offOf_13 lX12_498 kX12_size sX12_size (Nat.le_of_ble_eq_true rfl) vc ?_
  intro v3 h3 vc
  obtain ⟨hR3, vc⟩ := vc
  replace hR := hR3.trans hR
  refine go_iload_n (x := a1) dX12_offOf_16 rfl ?_
  refine go_aload_n (x := 82) dX12_offOf_17 rfl ?_
  refine gvI0 MX12_columns dX12_offOf_18 lX12_477 kX12_columns vX12_columns sh82 (by decide) rfl (Nat.le_of_ble_eq_true rfl) vc ?_
  intro v4 h4 vc
  obtain ⟨hR4, vc⟩ := vc
  replace hR := hR4.trans hR
  refine go_idiv dX12_offOf_21 vc.1 ?_
  have vc := vc.2
  refine go_iload_n (x := a2) dX12_offOf_22 rfl ?_
  refine go_aload_n (x := 82) dX12_offOf_23 rfl ?_
  refine gvI0 MX12_columns dX12_offOf_24 lX12_477 kX12_columns vX12_columns sh82 (by decide) rfl (Nat.le_of_ble_eq_true rfl) vc ?_
  intro v5 h5 vc
  obtain ⟨hR5, vc⟩ := vc
  replace hR := hR5.trans hR
  refine go_idiv dX12_offOf_27 vc.1 ?_
  have vc := vc.2
  refine go_isub dX12_offOf_28 ?_
  refine gsI1 MX12_size dX12_offOf_29 lX12_498 kX12_size sX12_size (Nat.le_of_ble_eq_true rfl) vc ?_
  intro v6 h6 vc
  obtain ⟨hR6, vc⟩ := vc
  replace hR := hR6.trans hR
  refine go_iadd dX12_offOf_32 ?_
  exact go_iret dX12_offOf_33 rfl vc rfl (Nat.le_refl _) (Nat.le_refl _)
set_option maxRecDepth 20000 in
theorem wX12_homeOf_0 {p : Program} {l : Launch} {e : Env} {s : State} {m : MethodId} {args : Array Value} {below : List Frame} {meth : Method} {c : Code} {G : gG} {d : Nat} {Q : Option Value → gH → Prop} {h : gH} {lk sp : Nat} {cd : Option Nat} {a1 : Int32} (hR : h.2.2 = gRF lk sp cd) (hlk : lk = 30 ∨ lk = 67) (hsp : sp = 30 ∨ sp = 67)  (vc : gg p l e s m args below meth c G (d + 1) MX12_homeOf Q 5 [some (.ref 82), some (.int a1), some (.int 99), some (.int 0)] [] h) : gg p l e s m args below meth c G (d + 1) MX12_homeOf Q 0 [some (.ref 82), some (.int a1), none, none] [] h := by
  refine go_bipush (v := 99) dX12_homeOf_0 rfl ?_
  refine go_istore_n dX12_homeOf_2 (Nat.le_of_ble_eq_true rfl) ?_
  show gg p l e s m args below meth c G (d + 1) MX12_homeOf Q 3 [some (.ref 82), some (.int a1), some (.int 99), none] [] h
  refine go_iconst (v := 0) dX12_homeOf_3 rfl ?_
  refine go_istore_n dX12_homeOf_4 (Nat.le_of_ble_eq_true rfl) ?_
  show gg p l e s m args below meth c G (d + 1) MX12_homeOf Q 5 [some (.ref 82), some (.int a1), some (.int 99), some (.int 0)] [] h
  exact vc
set_option maxRecDepth 20000 in
theorem wX12_homeOf_5 {p : Program} {l : Launch} {e : Env} {s : State} {m : MethodId} {args : Array Value} {below : List Frame} {meth : Method} {c : Code} {G : gG} {d : Nat} {Q : Option Value → gH → Prop} {h : gH} {lk sp : Nat} {cd : Option Nat} {x1 : Int32} {x2 : Int32} {x3 : Int32} (hR : h.2.2 = gRF lk sp cd) (hlk : lk = 30 ∨ lk = 67) (hsp : sp = 30 ∨ sp = 67)  (vc : gC l G d MX12_cellMany [.ref 82] h (rI fun v1 h1 => h1.2.2 = (h).2.2 ∧ ((v1 ≤ x3 → Q (some (.int x2)) h1) ∧ (¬ v1 ≤ x3 → gC l G d MX12_kindAt [.ref 82, .int x3] h1 (rI fun v2 h2 => h2.2.2 = (h1).2.2 ∧ ((¬ v2 = 0 → gg p l e s m args below meth c G (d + 1) MX12_homeOf Q 5 [some (.ref 82), some (.int x1), some (.int x2), some (.int (x3 + 1))] [] h2) ∧ (v2 = 0 → gC l G d MX12_offOf [.ref 82, .int x3, .int x1] h2 (rI fun v3 h3 => h3.2.2 = (h2).2.2 ∧ ((x2 ≤ v3 → gg p l e s m args below meth c G (d + 1) MX12_homeOf Q 5 [some (.ref 82), some (.int x1), some (.int x2), some (.int (x3 + 1))] [] h3) ∧ (¬ x2 ≤ v3 → gC l G d MX12_offOf [.ref 82, .int x3, .int x1] h3 (rI fun v4 h4 => h4.2.2 = (h3).2.2 ∧ gg p l e s m args below meth c G (d + 1) MX12_homeOf Q 5 [some (.ref 82), some (.int x1), some (.int v4), some (.int (x3 + 1))] [] h4))))))))))) : gg p l e s m args below meth c G (d + 1) MX12_homeOf Q 5 [some (.ref 82), some (.int x1), some (.int x2), some (.int x3)] [] h := by
  refine go_iload_n (x := x3) dX12_homeOf_5 rfl ?_
  refine go_aload_n (x := 82) dX12_homeOf_6 rfl ?_
  refine gvI0 MX12_cellMany dX12_homeOf_7 lX12_480 kX12_cellMany vX12_cellMany sh82 (by decide) rfl (Nat.le_of_ble_eq_true rfl) vc ?_
  intro v1 h1 vc
  obtain ⟨hR1, vc⟩ := vc
  replace hR := hR1.trans hR
  refine go_icmp_ge 44 dX12_homeOf_10 rfl (fun q => ?_) (fun q => ?_)
  · replace vc := vc.1 q
    refine go_iload_n (x := x2) dX12_homeOf_44 rfl ?_
    exact go_iret dX12_homeOf_45 rfl vc rfl (Nat.le_refl _) (Nat.le_refl _)
  · replace vc := vc.2 q
    refine go_aload_n (x := 82) dX12_homeOf_13 rfl ?_
    refine go_iload_n (x := x3) dX12_homeOf_14 rfl ?_
    refine gvI1 MX12_kindAt dX12_homeOf_15 lX12_486 kX12_kindAt vX12_kindAt sh82 (by decide) rfl (Nat.le_of_ble_eq_true rfl) vc ?_
    intro v2 h2 vc
    obtain ⟨hR2, vc⟩ := vc
    replace hR := hR2.trans hR
    refine go_if_ne 38 dX12_homeOf_18 rfl (fun q => ?_) (fun q => ?_)
    · replace vc := vc.1 q
      refine go_iinc (x := x3) dX12_homeOf_38 rfl ?_
      show gg p l e s m args below meth c G (d + 1) MX12_homeOf Q 41 [some (.ref 82), some (.int x1), some (.int x2), some (.int (x3 + 1))] [] h2
      refine go_goto 5 dX12_homeOf_41 rfl ?_
      exact vc
    · replace vc := vc.2 q
      refine go_aload_n (x := 82) dX12_homeOf_21 rfl ?_
      refine go_iload_n (x := x3) dX12_homeOf_22 rfl ?_
      refine go_iload_n (x := x1) dX12_homeOf_23 rfl ?_
      refine gvI2 MX12_offOf dX12_homeOf_24 lX12_501 kX12_offOf vX12_offOf sh82 (by decide) rfl (Nat.le_of_ble_eq_true rfl) vc ?_
      intro v3 h3 vc
      obtain ⟨hR3, vc⟩ := vc
      replace hR := hR3.trans hR
      refine go_iload_n (x := x2) dX12_homeOf_27 rfl ?_
      refine go_icmp_ge 38 dX12_homeOf_28 rfl (fun q => ?_) (fun q => ?_)
      · replace vc := vc.1 q
        refine go_iinc (x := x3) dX12_homeOf_38 rfl ?_
        show gg p l e s m args below meth c G (d + 1) MX12_homeOf Q 41 [some (.ref 82), some (.int x1), some (.int x2), some (.int (x3 + 1))] [] h3
        refine go_goto 5 dX12_homeOf_41 rfl ?_
        exact vc
      · replace vc := vc.2 q
        refine go_aload_n (x := 82) dX12_homeOf_31 rfl ?_
        refine go_iload_n (x := x3) dX12_homeOf_32 rfl ?_
        refine go_iload_n (x := x1) dX12_homeOf_33 rfl ?_
        refine gvI2 MX12_offOf dX12_homeOf_34 lX12_501 kX12_offOf vX12_offOf sh82 (by decide) rfl (Nat.le_of_ble_eq_true rfl) vc ?_
        intro v4 h4 vc
        obtain ⟨hR4, vc⟩ := vc
        replace hR := hR4.trans hR
        refine go_istore_n dX12_homeOf_37 (Nat.le_of_ble_eq_true rfl) ?_
        show gg p l e s m args below meth c G (d + 1) MX12_homeOf Q 38 [some (.ref 82), some (.int x1), some (.int v4), some (.int x3)] [] h4
        refine go_iinc (x := x3) dX12_homeOf_38 rfl ?_
        show gg p l e s m args below meth c G (d + 1) MX12_homeOf Q 41 [some (.ref 82), some (.int x1), some (.int v4), some (.int (x3 + 1))] [] h4
        refine go_goto 5 dX12_homeOf_41 rfl ?_
        exact vc
set_option maxRecDepth 20000 in
theorem wX12_skyIn_0 {p : Program} {l : Launch} {e : Env} {s : State} {m : MethodId} {args : Array Value} {below : List Frame} {meth : Method} {c : Code} {G : gG} {d : Nat} {Q : Option Value → gH → Prop} {h : gH} {lk sp : Nat} {cd : Option Nat} {a1 : Int32} (hR : h.2.2 = gRF lk sp cd) (hlk : lk = 30 ∨ lk = 67) (hsp : sp = 30 ∨ sp = 67)  (vc : gg p l e s m args below meth c G d MX12_skyIn Q 7 [some (.ref 82), some (.int a1), some (.int (-1)), some (.int 0), some (.int 0)] [] h) : gg p l e s m args below meth c G d MX12_skyIn Q 0 [some (.ref 82), some (.int a1), none, none, none] [] h := by
  refine go_iconst (v := (-1)) dX12_skyIn_0 rfl ?_
  refine go_istore_n dX12_skyIn_1 (Nat.le_of_ble_eq_true rfl) ?_
  show gg p l e s m args below meth c G d MX12_skyIn Q 2 [some (.ref 82), some (.int a1), some (.int (-1)), none, none] [] h
  refine go_iconst (v := 0) dX12_skyIn_2 rfl ?_
  refine go_istore_n dX12_skyIn_3 (Nat.le_of_ble_eq_true rfl) ?_
  show gg p l e s m args below meth c G d MX12_skyIn Q 4 [some (.ref 82), some (.int a1), some (.int (-1)), some (.int 0), none] [] h
  refine go_iconst (v := 0) dX12_skyIn_4 rfl ?_
  refine go_istore dX12_skyIn_5 (Nat.le_of_ble_eq_true rfl) ?_
  show gg p l e s m args below meth c G d MX12_skyIn Q 7 [some (.ref 82), some (.int a1), some (.int (-1)), some (.int 0), some (.int 0)] [] h
  exact vc
set_option maxRecDepth 20000 in
theorem wX12_skyIn_7 {p : Program} {l : Launch} {e : Env} {s : State} {m : MethodId} {args : Array Value} {below : List Frame} {meth : Method} {c : Code} {G : gG} {d : Nat} {Q : Option Value → gH → Prop} {h : gH} {lk sp : Nat} {cd : Option Nat} {x1 : Int32} {x2 : Int32} {x3 : Int32} {x4 : Int32} (hR : h.2.2 = gRF lk sp cd) (hlk : lk = 30 ∨ lk = 67) (hsp : sp = 30 ∨ sp = 67)  (vc : (((h.1 119 9) ≤ x4 → Q (some (.int x3)) h) ∧ (¬ (h.1 119 9) ≤ x4 → (vp_in ((20 + (2 * x4))) 40 ∧ ((x1 < (h.1 125 ((20 + (2 * x4)) : Int32).toNatClampNeg) → gg p l e s m args below meth c G d MX12_skyIn Q 7 [some (.ref 82), some (.int x1), some (.int x2), some (.int x3), some (.int (x4 + 1))] [] h) ∧ (¬ x1 < (h.1 125 ((20 + (2 * x4)) : Int32).toNatClampNeg) → (vp_in ((20 + (2 * x4))) 40 ∧ ((x2 < (h.1 125 ((20 + (2 * x4)) : Int32).toNatClampNeg) → (vp_in ((20 + (2 * x4))) 40 ∧ (vp_in ((21 + (2 * x4))) 40 ∧ gg p l e s m args below meth c G d MX12_skyIn Q 7 [some (.ref 82), some (.int x1), some (.int (h.1 125 ((20 + (2 * x4)) : Int32).toNatClampNeg)), some (.int (h.1 125 ((21 + (2 * x4)) : Int32).toNatClampNeg)), some (.int (x4 + 1))] [] h))) ∧ (¬ x2 < (h.1 125 ((20 + (2 * x4)) : Int32).toNatClampNeg) → gg p l e s m args below meth c G d MX12_skyIn Q 7 [some (.ref 82), some (.int x1), some (.int x2), some (.int x3), some (.int (x4 + 1))] [] h))))))))) : gg p l e s m args below meth c G d MX12_skyIn Q 7 [some (.ref 82), some (.int x1), some (.int x2), some (.int x3), some (.int x4)] [] h := by
  refine go_iload (x := x4) dX12_skyIn_7 rfl ?_
  refine go_aload_n (x := 82) dX12_skyIn_9 rfl ?_
  refine go_getR (x := 119) dX12_skyIn_10 f12_123 sh82 (fun _ _ => rfl) (rf82_46 hR) ?_
  refine go_bipush (v := 9) dX12_skyIn_13 rfl ?_
  refine go_iald' (v := (h.1 119 9)) dX12_skyIn_15 sh119 (by unfold vp_in; decide) rfl ?_
  refine go_icmp_ge 86 dX12_skyIn_16 rfl (fun q => ?_) (fun q => ?_)
  · replace vc := vc.1 q
    refine go_iload_n (x := x3) dX12_skyIn_86 rfl ?_
    exact go_iret dX12_skyIn_87 rfl vc rfl (Nat.le_refl _) (Nat.le_refl _)
  · replace vc := vc.2 q
    refine go_aload_n (x := 82) dX12_skyIn_19 rfl ?_
    refine go_getR (x := 125) dX12_skyIn_20 f12_142 sh82 (fun _ _ => rfl) (rf82_52 hR) ?_
    refine go_bipush (v := 20) dX12_skyIn_23 rfl ?_
    refine go_iconst (v := 2) dX12_skyIn_25 rfl ?_
    refine go_iload (x := x4) dX12_skyIn_26 rfl ?_
    refine go_imul dX12_skyIn_28 ?_
    refine go_iadd dX12_skyIn_29 ?_
    refine go_iald' (v := (h.1 125 ((20 + (2 * x4)) : Int32).toNatClampNeg)) dX12_skyIn_30 sh125 vc.1 rfl ?_
    have vc := vc.2
    refine go_iload_n (x := x1) dX12_skyIn_31 rfl ?_
    refine go_icmp_gt 80 dX12_skyIn_32 rfl (fun q => ?_) (fun q => ?_)
    · replace vc := vc.1 q
      refine go_iinc (x := x4) dX12_skyIn_80 rfl ?_
      show gg p l e s m args below meth c G d MX12_skyIn Q 83 [some (.ref 82), some (.int x1), some (.int x2), some (.int x3), some (.int (x4 + 1))] [] h
      refine go_goto 7 dX12_skyIn_83 rfl ?_
      exact vc
    · replace vc := vc.2 q
      refine go_aload_n (x := 82) dX12_skyIn_35 rfl ?_
      refine go_getR (x := 125) dX12_skyIn_36 f12_142 sh82 (fun _ _ => rfl) (rf82_52 hR) ?_
      refine go_bipush (v := 20) dX12_skyIn_39 rfl ?_
      refine go_iconst (v := 2) dX12_skyIn_41 rfl ?_
      refine go_iload (x := x4) dX12_skyIn_42 rfl ?_
      refine go_imul dX12_skyIn_44 ?_
      refine go_iadd dX12_skyIn_45 ?_
      refine go_iald' (v := (h.1 125 ((20 + (2 * x4)) : Int32).toNatClampNeg)) dX12_skyIn_46 sh125 vc.1 rfl ?_
      have vc := vc.2
      refine go_iload_n (x := x2) dX12_skyIn_47 rfl ?_
      refine go_icmp_gt 54 dX12_skyIn_48 rfl (fun q => ?_) (fun q => ?_)
      · replace vc := vc.1 q
        refine go_aload_n (x := 82) dX12_skyIn_54 rfl ?_
        refine go_getR (x := 125) dX12_skyIn_55 f12_142 sh82 (fun _ _ => rfl) (rf82_52 hR) ?_
        refine go_bipush (v := 20) dX12_skyIn_58 rfl ?_
        refine go_iconst (v := 2) dX12_skyIn_60 rfl ?_
        refine go_iload (x := x4) dX12_skyIn_61 rfl ?_
        refine go_imul dX12_skyIn_63 ?_
        refine go_iadd dX12_skyIn_64 ?_
        refine go_iald' (v := (h.1 125 ((20 + (2 * x4)) : Int32).toNatClampNeg)) dX12_skyIn_65 sh125 vc.1 rfl ?_
        have vc := vc.2
        refine go_istore_n dX12_skyIn_66 (Nat.le_of_ble_eq_true rfl) ?_
        show gg p l e s m args below meth c G d MX12_skyIn Q 67 [some (.ref 82), some (.int x1), some (.int (h.1 125 ((20 + (2 * x4)) : Int32).toNatClampNeg)), some (.int x3), some (.int x4)] [] h
        refine go_aload_n (x := 82) dX12_skyIn_67 rfl ?_
        refine go_getR (x := 125) dX12_skyIn_68 f12_142 sh82 (fun _ _ => rfl) (rf82_52 hR) ?_
        refine go_bipush (v := 21) dX12_skyIn_71 rfl ?_
        refine go_iconst (v := 2) dX12_skyIn_73 rfl ?_
        refine go_iload (x := x4) dX12_skyIn_74 rfl ?_
        refine go_imul dX12_skyIn_76 ?_
        refine go_iadd dX12_skyIn_77 ?_
        refine go_iald' (v := (h.1 125 ((21 + (2 * x4)) : Int32).toNatClampNeg)) dX12_skyIn_78 sh125 vc.1 rfl ?_
        have vc := vc.2
        refine go_istore_n dX12_skyIn_79 (Nat.le_of_ble_eq_true rfl) ?_
        show gg p l e s m args below meth c G d MX12_skyIn Q 80 [some (.ref 82), some (.int x1), some (.int (h.1 125 ((20 + (2 * x4)) : Int32).toNatClampNeg)), some (.int (h.1 125 ((21 + (2 * x4)) : Int32).toNatClampNeg)), some (.int x4)] [] h
        refine go_iinc (x := x4) dX12_skyIn_80 rfl ?_
        show gg p l e s m args below meth c G d MX12_skyIn Q 83 [some (.ref 82), some (.int x1), some (.int (h.1 125 ((20 + (2 * x4)) : Int32).toNatClampNeg)), some (.int (h.1 125 ((21 + (2 * x4)) : Int32).toNatClampNeg)), some (.int (x4 + 1))] [] h
        refine go_goto 7 dX12_skyIn_83 rfl ?_
        exact vc
      · replace vc := vc.2 q
        refine go_goto 80 dX12_skyIn_51 rfl ?_
        refine go_iinc (x := x4) dX12_skyIn_80 rfl ?_
        show gg p l e s m args below meth c G d MX12_skyIn Q 83 [some (.ref 82), some (.int x1), some (.int x2), some (.int x3), some (.int (x4 + 1))] [] h
        refine go_goto 7 dX12_skyIn_83 rfl ?_
        exact vc
set_option maxRecDepth 20000 in
theorem wX12_cellOf_0 {p : Program} {l : Launch} {e : Env} {s : State} {m : MethodId} {args : Array Value} {below : List Frame} {meth : Method} {c : Code} {G : gG} {d : Nat} {Q : Option Value → gH → Prop} {h : gH} {lk sp : Nat} {cd : Option Nat} {a1 : Int32} (hR : h.2.2 = gRF lk sp cd) (hlk : lk = 30 ∨ lk = 67) (hsp : sp = 30 ∨ sp = 67)  (vc : (vp_in ((2 + (4 * a1))) 187 ∧ Q (some (.int (h.1 133 ((2 + (4 * a1)) : Int32).toNatClampNeg))) h)) : gg p l e s m args below meth c G d MX12_cellOf Q 0 [some (.ref 82), some (.int a1)] [] h := by
  refine go_aload_n (x := 82) dX12_cellOf_0 rfl ?_
  refine go_getR (x := 133) dX12_cellOf_1 f12_166 sh82 (fun _ _ => rfl) (rf82_68 hR) ?_
  refine go_iconst (v := 2) dX12_cellOf_4 rfl ?_
  refine go_iconst (v := 4) dX12_cellOf_5 rfl ?_
  refine go_iload_n (x := a1) dX12_cellOf_6 rfl ?_
  refine go_imul dX12_cellOf_7 ?_
  refine go_iadd dX12_cellOf_8 ?_
  refine go_iald' (v := (h.1 133 ((2 + (4 * a1)) : Int32).toNatClampNeg)) dX12_cellOf_9 sh133 vc.1 rfl ?_
  have vc := vc.2
  exact go_iret dX12_cellOf_10 rfl vc rfl (Nat.le_refl _) (Nat.le_refl _)
set_option maxRecDepth 20000 in
theorem wX12_trustOf_0 {p : Program} {l : Launch} {e : Env} {s : State} {m : MethodId} {args : Array Value} {below : List Frame} {meth : Method} {c : Code} {G : gG} {d : Nat} {Q : Option Value → gH → Prop} {h : gH} {lk sp : Nat} {cd : Option Nat} {a1 : Int32} (hR : h.2.2 = gRF lk sp cd) (hlk : lk = 30 ∨ lk = 67) (hsp : sp = 30 ∨ sp = 67)  (vc : (vp_in (((2 + (4 * a1)) + 1)) 187 ∧ Q (some (.int (h.1 133 (((2 + (4 * a1)) + 1) : Int32).toNatClampNeg))) h)) : gg p l e s m args below meth c G d MX12_trustOf Q 0 [some (.ref 82), some (.int a1)] [] h := by
  refine go_aload_n (x := 82) dX12_trustOf_0 rfl ?_
  refine go_getR (x := 133) dX12_trustOf_1 f12_166 sh82 (fun _ _ => rfl) (rf82_68 hR) ?_
  refine go_iconst (v := 2) dX12_trustOf_4 rfl ?_
  refine go_iconst (v := 4) dX12_trustOf_5 rfl ?_
  refine go_iload_n (x := a1) dX12_trustOf_6 rfl ?_
  refine go_imul dX12_trustOf_7 ?_
  refine go_iadd dX12_trustOf_8 ?_
  refine go_iconst (v := 1) dX12_trustOf_9 rfl ?_
  refine go_iadd dX12_trustOf_10 ?_
  refine go_iald' (v := (h.1 133 (((2 + (4 * a1)) + 1) : Int32).toNatClampNeg)) dX12_trustOf_11 sh133 vc.1 rfl ?_
  have vc := vc.2
  exact go_iret dX12_trustOf_12 rfl vc rfl (Nat.le_refl _) (Nat.le_refl _)
set_option maxRecDepth 20000 in
theorem wX12_balksOf_0 {p : Program} {l : Launch} {e : Env} {s : State} {m : MethodId} {args : Array Value} {below : List Frame} {meth : Method} {c : Code} {G : gG} {d : Nat} {Q : Option Value → gH → Prop} {h : gH} {lk sp : Nat} {cd : Option Nat} {a1 : Int32} (hR : h.2.2 = gRF lk sp cd) (hlk : lk = 30 ∨ lk = 67) (hsp : sp = 30 ∨ sp = 67)  (vc : (vp_in (((2 + (4 * a1)) + 2)) 187 ∧ Q (some (.int (h.1 133 (((2 + (4 * a1)) + 2) : Int32).toNatClampNeg))) h)) : gg p l e s m args below meth c G d MX12_balksOf Q 0 [some (.ref 82), some (.int a1)] [] h := by
  refine go_aload_n (x := 82) dX12_balksOf_0 rfl ?_
  refine go_getR (x := 133) dX12_balksOf_1 f12_166 sh82 (fun _ _ => rfl) (rf82_68 hR) ?_
  refine go_iconst (v := 2) dX12_balksOf_4 rfl ?_
  refine go_iconst (v := 4) dX12_balksOf_5 rfl ?_
  refine go_iload_n (x := a1) dX12_balksOf_6 rfl ?_
  refine go_imul dX12_balksOf_7 ?_
  refine go_iadd dX12_balksOf_8 ?_
  refine go_iconst (v := 2) dX12_balksOf_9 rfl ?_
  refine go_iadd dX12_balksOf_10 ?_
  refine go_iald' (v := (h.1 133 (((2 + (4 * a1)) + 2) : Int32).toNatClampNeg)) dX12_balksOf_11 sh133 vc.1 rfl ?_
  have vc := vc.2
  exact go_iret dX12_balksOf_12 rfl vc rfl (Nat.le_refl _) (Nat.le_refl _)
set_option maxRecDepth 20000 in
theorem wX12_handOf_0 {p : Program} {l : Launch} {e : Env} {s : State} {m : MethodId} {args : Array Value} {below : List Frame} {meth : Method} {c : Code} {G : gG} {d : Nat} {Q : Option Value → gH → Prop} {h : gH} {lk sp : Nat} {cd : Option Nat} {a1 : Int32} (hR : h.2.2 = gRF lk sp cd) (hlk : lk = 30 ∨ lk = 67) (hsp : sp = 30 ∨ sp = 67)  (vc : (vp_in (((2 + (4 * a1)) + 3)) 187 ∧ Q (some (.int (h.1 133 (((2 + (4 * a1)) + 3) : Int32).toNatClampNeg))) h)) : gg p l e s m args below meth c G d MX12_handOf Q 0 [some (.ref 82), some (.int a1)] [] h := by
  refine go_aload_n (x := 82) dX12_handOf_0 rfl ?_
  refine go_getR (x := 133) dX12_handOf_1 f12_166 sh82 (fun _ _ => rfl) (rf82_68 hR) ?_
  refine go_iconst (v := 2) dX12_handOf_4 rfl ?_
  refine go_iconst (v := 4) dX12_handOf_5 rfl ?_
  refine go_iload_n (x := a1) dX12_handOf_6 rfl ?_
  refine go_imul dX12_handOf_7 ?_
  refine go_iadd dX12_handOf_8 ?_
  refine go_iconst (v := 3) dX12_handOf_9 rfl ?_
  refine go_iadd dX12_handOf_10 ?_
  refine go_iald' (v := (h.1 133 (((2 + (4 * a1)) + 3) : Int32).toNatClampNeg)) dX12_handOf_11 sh133 vc.1 rfl ?_
  have vc := vc.2
  exact go_iret dX12_handOf_12 rfl vc rfl (Nat.le_refl _) (Nat.le_refl _)
set_option maxRecDepth 20000 in
theorem wX12_boatsIn_0 {p : Program} {l : Launch} {e : Env} {s : State} {m : MethodId} {args : Array Value} {below : List Frame} {meth : Method} {c : Code} {G : gG} {d : Nat} {Q : Option Value → gH → Prop} {h : gH} {lk sp : Nat} {cd : Option Nat} {a1 : Int32} (hR : h.2.2 = gRF lk sp cd) (hlk : lk = 30 ∨ lk = 67) (hsp : sp = 30 ∨ sp = 67)  (vc : gg p l e s m args below meth c G (d + 1) MX12_boatsIn Q 4 [some (.ref 82), some (.int a1), some (.int 0), some (.int 0)] [] h) : gg p l e s m args below meth c G (d + 1) MX12_boatsIn Q 0 [some (.ref 82), some (.int a1), none, none] [] h := by
  refine go_iconst (v := 0) dX12_boatsIn_0 rfl ?_
  refine go_istore_n dX12_boatsIn_1 (Nat.le_of_ble_eq_true rfl) ?_
  show gg p l e s m args below meth c G (d + 1) MX12_boatsIn Q 2 [some (.ref 82), some (.int a1), some (.int 0), none] [] h
  refine go_iconst (v := 0) dX12_boatsIn_2 rfl ?_
  refine go_istore_n dX12_boatsIn_3 (Nat.le_of_ble_eq_true rfl) ?_
  show gg p l e s m args below meth c G (d + 1) MX12_boatsIn Q 4 [some (.ref 82), some (.int a1), some (.int 0), some (.int 0)] [] h
  exact vc
set_option maxRecDepth 20000 in
theorem wX12_boatsIn_4 {p : Program} {l : Launch} {e : Env} {s : State} {m : MethodId} {args : Array Value} {below : List Frame} {meth : Method} {c : Code} {G : gG} {d : Nat} {Q : Option Value → gH → Prop} {h : gH} {lk sp : Nat} {cd : Option Nat} {x1 : Int32} {x2 : Int32} {x3 : Int32} (hR : h.2.2 = gRF lk sp cd) (hlk : lk = 30 ∨ lk = 67) (hsp : sp = 30 ∨ sp = 67)  (vc : gC l G d MX12_boatMany [.ref 82] h (rI fun v1 h1 => h1.2.2 = (h).2.2 ∧ ((v1 ≤ x3 → Q (some (.int x2)) h1) ∧ (¬ v1 ≤ x3 → gC l G d MX12_cellOf [.ref 82, .int x3] h1 (rI fun v2 h2 => h2.2.2 = (h1).2.2 ∧ ((¬ v2 = x1 → gg p l e s m args below meth c G (d + 1) MX12_boatsIn Q 4 [some (.ref 82), some (.int x1), some (.int x2), some (.int (x3 + 1))] [] h2) ∧ (v2 = x1 → gg p l e s m args below meth c G (d + 1) MX12_boatsIn Q 4 [some (.ref 82), some (.int x1), some (.int (x2 ||| (1 <<< (x3 &&& 31)))), some (.int (x3 + 1))] [] h2))))))) : gg p l e s m args below meth c G (d + 1) MX12_boatsIn Q 4 [some (.ref 82), some (.int x1), some (.int x2), some (.int x3)] [] h := by
  refine go_iload_n (x := x3) dX12_boatsIn_4 rfl ?_
  refine go_aload_n (x := 82) dX12_boatsIn_5 rfl ?_
  refine gvI0 MX12_boatMany dX12_boatsIn_6 lX12_483 kX12_boatMany vX12_boatMany sh82 (by decide) rfl (Nat.le_of_ble_eq_true rfl) vc ?_
  intro v1 h1 vc
  obtain ⟨hR1, vc⟩ := vc
  replace hR := hR1.trans hR
  refine go_icmp_ge 33 dX12_boatsIn_9 rfl (fun q => ?_) (fun q => ?_)
  · replace vc := vc.1 q
    refine go_iload_n (x := x2) dX12_boatsIn_33 rfl ?_
    exact go_iret dX12_boatsIn_34 rfl vc rfl (Nat.le_refl _) (Nat.le_refl _)
  · replace vc := vc.2 q
    refine go_aload_n (x := 82) dX12_boatsIn_12 rfl ?_
    refine go_iload_n (x := x3) dX12_boatsIn_13 rfl ?_
    refine gvI1 MX12_cellOf dX12_boatsIn_14 lX12_504 kX12_cellOf vX12_cellOf sh82 (by decide) rfl (Nat.le_of_ble_eq_true rfl) vc ?_
    intro v2 h2 vc
    obtain ⟨hR2, vc⟩ := vc
    replace hR := hR2.trans hR
    refine go_iload_n (x := x1) dX12_boatsIn_17 rfl ?_
    refine go_icmp_ne 27 dX12_boatsIn_18 rfl (fun q => ?_) (fun q => ?_)
    · replace vc := vc.1 q
      refine go_iinc (x := x3) dX12_boatsIn_27 rfl ?_
      show gg p l e s m args below meth c G (d + 1) MX12_boatsIn Q 30 [some (.ref 82), some (.int x1), some (.int x2), some (.int (x3 + 1))] [] h2
      refine go_goto 4 dX12_boatsIn_30 rfl ?_
      exact vc
    · replace vc := vc.2 q
      refine go_iload_n (x := x2) dX12_boatsIn_21 rfl ?_
      refine go_iconst (v := 1) dX12_boatsIn_22 rfl ?_
      refine go_iload_n (x := x3) dX12_boatsIn_23 rfl ?_
      refine go_ishl dX12_boatsIn_24 ?_
      refine go_ior dX12_boatsIn_25 ?_
      refine go_istore_n dX12_boatsIn_26 (Nat.le_of_ble_eq_true rfl) ?_
      show gg p l e s m args below meth c G (d + 1) MX12_boatsIn Q 27 [some (.ref 82), some (.int x1), some (.int (x2 ||| (1 <<< (x3 &&& 31)))), some (.int x3)] [] h2
      refine go_iinc (x := x3) dX12_boatsIn_27 rfl ?_
      show gg p l e s m args below meth c G (d + 1) MX12_boatsIn Q 30 [some (.ref 82), some (.int x1), some (.int (x2 ||| (1 <<< (x3 &&& 31)))), some (.int (x3 + 1))] [] h2
      refine go_goto 4 dX12_boatsIn_30 rfl ?_
      exact vc
set_option maxRecDepth 20000 in
theorem wX12_bits_0 {p : Program} {l : Launch} {e : Env} {s : State} {m : MethodId} {args : Array Value} {below : List Frame} {meth : Method} {c : Code} {G : gG} {d : Nat} {Q : Option Value → gH → Prop} {h : gH} {lk sp : Nat} {cd : Option Nat} {a1 : Int32} (hR : h.2.2 = gRF lk sp cd) (hlk : lk = 30 ∨ lk = 67) (hsp : sp = 30 ∨ sp = 67)  (vc : gg p l e s m args below meth c G d MX12_bits Q 4 [some (.int a1), some (.int 0), some (.int a1)] [] h) : gg p l e s m args below meth c G d MX12_bits Q 0 [some (.int a1), none, none] [] h := by
  refine go_iconst (v := 0) dX12_bits_0 rfl ?_
  refine go_istore_n dX12_bits_1 (Nat.le_of_ble_eq_true rfl) ?_
  show gg p l e s m args below meth c G d MX12_bits Q 2 [some (.int a1), some (.int 0), none] [] h
  refine go_iload_n (x := a1) dX12_bits_2 rfl ?_
  refine go_istore_n dX12_bits_3 (Nat.le_of_ble_eq_true rfl) ?_
  show gg p l e s m args below meth c G d MX12_bits Q 4 [some (.int a1), some (.int 0), some (.int a1)] [] h
  exact vc
set_option maxRecDepth 20000 in
theorem wX12_bits_4 {p : Program} {l : Launch} {e : Env} {s : State} {m : MethodId} {args : Array Value} {below : List Frame} {meth : Method} {c : Code} {G : gG} {d : Nat} {Q : Option Value → gH → Prop} {h : gH} {lk sp : Nat} {cd : Option Nat} {x0 : Int32} {x1 : Int32} {x2 : Int32} (hR : h.2.2 = gRF lk sp cd) (hlk : lk = 30 ∨ lk = 67) (hsp : sp = 30 ∨ sp = 67)  (vc : ((x2 = 0 → Q (some (.int x1)) h) ∧ (¬ x2 = 0 → gg p l e s m args below meth c G d MX12_bits Q 4 [some (.int x0), some (.int (x1 + 1)), some (.int (x2 &&& (x2 - 1)))] [] h))) : gg p l e s m args below meth c G d MX12_bits Q 4 [some (.int x0), some (.int x1), some (.int x2)] [] h := by
  refine go_iload_n (x := x2) dX12_bits_4 rfl ?_
  refine go_if_eq 20 dX12_bits_5 rfl (fun q => ?_) (fun q => ?_)
  · replace vc := vc.1 q
    refine go_iload_n (x := x1) dX12_bits_20 rfl ?_
    exact go_iret dX12_bits_21 rfl vc rfl (Nat.le_refl _) (Nat.le_refl _)
  · replace vc := vc.2 q
    refine go_iinc (x := x1) dX12_bits_8 rfl ?_
    show gg p l e s m args below meth c G d MX12_bits Q 11 [some (.int x0), some (.int (x1 + 1)), some (.int x2)] [] h
    refine go_iload_n (x := x2) dX12_bits_11 rfl ?_
    refine go_iload_n (x := x2) dX12_bits_12 rfl ?_
    refine go_iconst (v := 1) dX12_bits_13 rfl ?_
    refine go_isub dX12_bits_14 ?_
    refine go_iand dX12_bits_15 ?_
    refine go_istore_n dX12_bits_16 (Nat.le_of_ble_eq_true rfl) ?_
    show gg p l e s m args below meth c G d MX12_bits Q 17 [some (.int x0), some (.int (x1 + 1)), some (.int (x2 &&& (x2 - 1)))] [] h
    refine go_goto 4 dX12_bits_17 rfl ?_
    exact vc
set_option maxRecDepth 20000 in
theorem wX12_asksOf_0 {p : Program} {l : Launch} {e : Env} {s : State} {m : MethodId} {args : Array Value} {below : List Frame} {meth : Method} {c : Code} {G : gG} {d : Nat} {Q : Option Value → gH → Prop} {h : gH} {lk sp : Nat} {cd : Option Nat} {a1 : Int32} {a2 : Int32} {a3 : Int32} (hR : h.2.2 = gRF lk sp cd) (hlk : lk = 30 ∨ lk = 67) (hsp : sp = 30 ∨ sp = 67)  (vc : gC l G d MX12_depthOf [.ref 82, .int a2] h (rI fun v1 h1 => h1.2.2 = (h).2.2 ∧ gC l G d MX12_isWreck [.ref 82, .int a2] (sI h1 132 0 v1) (rI fun v2 h2 => h2.2.2 = ((sI h1 132 0 v1)).2.2 ∧ ((v2 = 0 → gC l G d MX12_homeOf [.ref 82, .int a2] (sI h2 132 1 0) (rI fun v3 h3 => h3.2.2 = ((sI h2 132 1 0)).2.2 ∧ gC l G d MX12_skyIn [.ref 82, .int (h3.1 133 0)] (sI h3 132 2 v3) (rI fun v4 h4 => h4.2.2 = ((sI h3 132 2 v3)).2.2 ∧ gC l G d MX12_balksOf [.ref 82, .int a1] (sI h4 132 3 v4) (rI fun v5 h5 => h5.2.2 = ((sI h4 132 3 v4)).2.2 ∧ gC l G d MX12_handOf [.ref 82, .int a1] (sI h5 132 4 v5) (rI fun v6 h6 => h6.2.2 = ((sI h5 132 4 v5)).2.2 ∧ ((¬ v6 = (-1) → gC l G d MX12_handOf [.ref 82, .int a1] h6 (rI fun v7 h7 => h7.2.2 = (h6).2.2 ∧ (vp_in ((6 + v7)) 12 ∧ ((¬ a3 = (-1) → ((¬ a3 = (-1) → gC l G d MX12_trustOf [.ref 82, .int a1] (sI (sI (sI h7 132 5 (h7.1 123 ((6 + v7) : Int32).toNatClampNeg)) 132 6 1) 132 7 a3) (rI fun v8 h8 => h8.2.2 = ((sI (sI (sI h7 132 5 (h7.1 123 ((6 + v7) : Int32).toNatClampNeg)) 132 6 1) 132 7 a3)).2.2 ∧ Q none (sI h8 132 8 v8))) ∧ (a3 = (-1) → gC l G d MX12_trustOf [.ref 82, .int a1] (sI (sI (sI h7 132 5 (h7.1 123 ((6 + v7) : Int32).toNatClampNeg)) 132 6 1) 132 7 0) (rI fun v9 h9 => h9.2.2 = ((sI (sI (sI h7 132 5 (h7.1 123 ((6 + v7) : Int32).toNatClampNeg)) 132 6 1) 132 7 0)).2.2 ∧ Q none (sI h9 132 8 v9))))) ∧ (a3 = (-1) → ((¬ a3 = (-1) → gC l G d MX12_trustOf [.ref 82, .int a1] (sI (sI (sI h7 132 5 (h7.1 123 ((6 + v7) : Int32).toNatClampNeg)) 132 6 0) 132 7 a3) (rI fun v10 h10 => h10.2.2 = ((sI (sI (sI h7 132 5 (h7.1 123 ((6 + v7) : Int32).toNatClampNeg)) 132 6 0) 132 7 a3)).2.2 ∧ Q none (sI h10 132 8 v10))) ∧ (a3 = (-1) → gC l G d MX12_trustOf [.ref 82, .int a1] (sI (sI (sI h7 132 5 (h7.1 123 ((6 + v7) : Int32).toNatClampNeg)) 132 6 0) 132 7 0) (rI fun v11 h11 => h11.2.2 = ((sI (sI (sI h7 132 5 (h7.1 123 ((6 + v7) : Int32).toNatClampNeg)) 132 6 0) 132 7 0)).2.2 ∧ Q none (sI h11 132 8 v11))))))))) ∧ (v6 = (-1) → ((¬ a3 = (-1) → ((¬ a3 = (-1) → gC l G d MX12_trustOf [.ref 82, .int a1] (sI (sI (sI h6 132 5 0) 132 6 1) 132 7 a3) (rI fun v12 h12 => h12.2.2 = ((sI (sI (sI h6 132 5 0) 132 6 1) 132 7 a3)).2.2 ∧ Q none (sI h12 132 8 v12))) ∧ (a3 = (-1) → gC l G d MX12_trustOf [.ref 82, .int a1] (sI (sI (sI h6 132 5 0) 132 6 1) 132 7 0) (rI fun v13 h13 => h13.2.2 = ((sI (sI (sI h6 132 5 0) 132 6 1) 132 7 0)).2.2 ∧ Q none (sI h13 132 8 v13))))) ∧ (a3 = (-1) → ((¬ a3 = (-1) → gC l G d MX12_trustOf [.ref 82, .int a1] (sI (sI (sI h6 132 5 0) 132 6 0) 132 7 a3) (rI fun v14 h14 => h14.2.2 = ((sI (sI (sI h6 132 5 0) 132 6 0) 132 7 a3)).2.2 ∧ Q none (sI h14 132 8 v14))) ∧ (a3 = (-1) → gC l G d MX12_trustOf [.ref 82, .int a1] (sI (sI (sI h6 132 5 0) 132 6 0) 132 7 0) (rI fun v15 h15 => h15.2.2 = ((sI (sI (sI h6 132 5 0) 132 6 0) 132 7 0)).2.2 ∧ Q none (sI h15 132 8 v15))))))))))))) ∧ (¬ v2 = 0 → gC l G d MX12_homeOf [.ref 82, .int a2] (sI h2 132 1 1) (rI fun v16 h16 => h16.2.2 = ((sI h2 132 1 1)).2.2 ∧ gC l G d MX12_skyIn [.ref 82, .int (h16.1 133 0)] (sI h16 132 2 v16) (rI fun v17 h17 => h17.2.2 = ((sI h16 132 2 v16)).2.2 ∧ gC l G d MX12_balksOf [.ref 82, .int a1] (sI h17 132 3 v17) (rI fun v18 h18 => h18.2.2 = ((sI h17 132 3 v17)).2.2 ∧ gC l G d MX12_handOf [.ref 82, .int a1] (sI h18 132 4 v18) (rI fun v19 h19 => h19.2.2 = ((sI h18 132 4 v18)).2.2 ∧ ((¬ v19 = (-1) → gC l G d MX12_handOf [.ref 82, .int a1] h19 (rI fun v20 h20 => h20.2.2 = (h19).2.2 ∧ (vp_in ((6 + v20)) 12 ∧ ((¬ a3 = (-1) → ((¬ a3 = (-1) → gC l G d MX12_trustOf [.ref 82, .int a1] (sI (sI (sI h20 132 5 (h20.1 123 ((6 + v20) : Int32).toNatClampNeg)) 132 6 1) 132 7 a3) (rI fun v21 h21 => h21.2.2 = ((sI (sI (sI h20 132 5 (h20.1 123 ((6 + v20) : Int32).toNatClampNeg)) 132 6 1) 132 7 a3)).2.2 ∧ Q none (sI h21 132 8 v21))) ∧ (a3 = (-1) → gC l G d MX12_trustOf [.ref 82, .int a1] (sI (sI (sI h20 132 5 (h20.1 123 ((6 + v20) : Int32).toNatClampNeg)) 132 6 1) 132 7 0) (rI fun v22 h22 => h22.2.2 = ((sI (sI (sI h20 132 5 (h20.1 123 ((6 + v20) : Int32).toNatClampNeg)) 132 6 1) 132 7 0)).2.2 ∧ Q none (sI h22 132 8 v22))))) ∧ (a3 = (-1) → ((¬ a3 = (-1) → gC l G d MX12_trustOf [.ref 82, .int a1] (sI (sI (sI h20 132 5 (h20.1 123 ((6 + v20) : Int32).toNatClampNeg)) 132 6 0) 132 7 a3) (rI fun v23 h23 => h23.2.2 = ((sI (sI (sI h20 132 5 (h20.1 123 ((6 + v20) : Int32).toNatClampNeg)) 132 6 0) 132 7 a3)).2.2 ∧ Q none (sI h23 132 8 v23))) ∧ (a3 = (-1) → gC l G d MX12_trustOf [.ref 82, .int a1] (sI (sI (sI h20 132 5 (h20.1 123 ((6 + v20) : Int32).toNatClampNeg)) 132 6 0) 132 7 0) (rI fun v24 h24 => h24.2.2 = ((sI (sI (sI h20 132 5 (h20.1 123 ((6 + v20) : Int32).toNatClampNeg)) 132 6 0) 132 7 0)).2.2 ∧ Q none (sI h24 132 8 v24))))))))) ∧ (v19 = (-1) → ((¬ a3 = (-1) → ((¬ a3 = (-1) → gC l G d MX12_trustOf [.ref 82, .int a1] (sI (sI (sI h19 132 5 0) 132 6 1) 132 7 a3) (rI fun v25 h25 => h25.2.2 = ((sI (sI (sI h19 132 5 0) 132 6 1) 132 7 a3)).2.2 ∧ Q none (sI h25 132 8 v25))) ∧ (a3 = (-1) → gC l G d MX12_trustOf [.ref 82, .int a1] (sI (sI (sI h19 132 5 0) 132 6 1) 132 7 0) (rI fun v26 h26 => h26.2.2 = ((sI (sI (sI h19 132 5 0) 132 6 1) 132 7 0)).2.2 ∧ Q none (sI h26 132 8 v26))))) ∧ (a3 = (-1) → ((¬ a3 = (-1) → gC l G d MX12_trustOf [.ref 82, .int a1] (sI (sI (sI h19 132 5 0) 132 6 0) 132 7 a3) (rI fun v27 h27 => h27.2.2 = ((sI (sI (sI h19 132 5 0) 132 6 0) 132 7 a3)).2.2 ∧ Q none (sI h27 132 8 v27))) ∧ (a3 = (-1) → gC l G d MX12_trustOf [.ref 82, .int a1] (sI (sI (sI h19 132 5 0) 132 6 0) 132 7 0) (rI fun v28 h28 => h28.2.2 = ((sI (sI (sI h19 132 5 0) 132 6 0) 132 7 0)).2.2 ∧ Q none (sI h28 132 8 v28))))))))))))))))) : gg p l e s m args below meth c G (d + 1) MX12_asksOf Q 0 [some (.ref 82), some (.int a1), some (.int a2), some (.int a3)] [] h := by
  refine go_aload_n (x := 82) dX12_asksOf_0 rfl ?_
  refine go_getR (x := 132) dX12_asksOf_1 f12_163 sh82 (fun _ _ => rfl) (rf82_67 hR) ?_
  refine go_iconst (v := 0) dX12_asksOf_4 rfl ?_
  refine go_aload_n (x := 82) dX12_asksOf_5 rfl ?_
  refine go_iload_n (x := a2) dX12_asksOf_6 rfl ?_
  refine gvI1 MX12_depthOf dX12_asksOf_7 lX12_507 kX12_depthOf vX12_depthOf sh82 (by decide) rfl (Nat.le_of_ble_eq_true rfl) vc ?_
  intro v1 h1 vc
  obtain ⟨hR1, vc⟩ := vc
  replace hR := hR1.trans hR
  refine go_iast dX12_asksOf_10 sh132 (by unfold vp_in; decide) ?_
  refine go_aload_n (x := 82) dX12_asksOf_11 rfl ?_
  refine go_getR (x := 132) dX12_asksOf_12 f12_163 sh82 (fun _ _ => rfl) (rf82_67 hR) ?_
  refine go_iconst (v := 1) dX12_asksOf_15 rfl ?_
  refine go_aload_n (x := 82) dX12_asksOf_16 rfl ?_
  refine go_iload_n (x := a2) dX12_asksOf_17 rfl ?_
  refine gvI1 MX12_isWreck dX12_asksOf_18 lX12_495 kX12_isWreck vX12_isWreck sh82 (by decide) rfl (Nat.le_of_ble_eq_true rfl) vc ?_
  intro v2 h2 vc
  obtain ⟨hR2, vc⟩ := vc
  replace hR := hR2.trans hR
  refine go_if_eq 28 dX12_asksOf_21 rfl (fun q => ?_) (fun q => ?_)
  · replace vc := vc.1 q
    refine go_iconst (v := 0) dX12_asksOf_28 rfl ?_
    refine go_iast dX12_asksOf_29 sh132 (by unfold vp_in; decide) ?_
    refine go_aload_n (x := 82) dX12_asksOf_30 rfl ?_
    refine go_getR (x := 132) dX12_asksOf_31 f12_163 sh82 (fun _ _ => rfl) (rf82_67 hR) ?_
    refine go_iconst (v := 2) dX12_asksOf_34 rfl ?_
    refine go_aload_n (x := 82) dX12_asksOf_35 rfl ?_
    refine go_iload_n (x := a2) dX12_asksOf_36 rfl ?_
    refine gvI1 MX12_homeOf dX12_asksOf_37 lX12_510 kX12_homeOf vX12_homeOf sh82 (by decide) rfl (Nat.le_of_ble_eq_true rfl) vc ?_
    intro v3 h3 vc
    obtain ⟨hR3, vc⟩ := vc
    replace hR := hR3.trans hR
    refine go_iast dX12_asksOf_40 sh132 (by unfold vp_in; decide) ?_
    refine go_aload_n (x := 82) dX12_asksOf_41 rfl ?_
    refine go_getR (x := 132) dX12_asksOf_42 f12_163 sh82 (fun _ _ => rfl) (rf82_67 hR) ?_
    refine go_iconst (v := 3) dX12_asksOf_45 rfl ?_
    refine go_aload_n (x := 82) dX12_asksOf_46 rfl ?_
    refine go_aload_n (x := 82) dX12_asksOf_47 rfl ?_
    refine go_getR (x := 133) dX12_asksOf_48 f12_166 sh82 (fun _ _ => rfl) (rf82_68 hR) ?_
    refine go_iconst (v := 0) dX12_asksOf_51 rfl ?_
    refine go_iald' (v := (h3.1 133 0)) dX12_asksOf_52 sh133 (by unfold vp_in; decide) rfl ?_
    refine gvI1 MX12_skyIn dX12_asksOf_53 lX12_513 kX12_skyIn vX12_skyIn sh82 (by decide) rfl (Nat.le_of_ble_eq_true rfl) vc ?_
    intro v4 h4 vc
    obtain ⟨hR4, vc⟩ := vc
    replace hR := hR4.trans hR
    refine go_iast dX12_asksOf_56 sh132 (by unfold vp_in; decide) ?_
    refine go_aload_n (x := 82) dX12_asksOf_57 rfl ?_
    refine go_getR (x := 132) dX12_asksOf_58 f12_163 sh82 (fun _ _ => rfl) (rf82_67 hR) ?_
    refine go_iconst (v := 4) dX12_asksOf_61 rfl ?_
    refine go_aload_n (x := 82) dX12_asksOf_62 rfl ?_
    refine go_iload_n (x := a1) dX12_asksOf_63 rfl ?_
    refine gvI1 MX12_balksOf dX12_asksOf_64 lX12_516 kX12_balksOf vX12_balksOf sh82 (by decide) rfl (Nat.le_of_ble_eq_true rfl) vc ?_
    intro v5 h5 vc
    obtain ⟨hR5, vc⟩ := vc
    replace hR := hR5.trans hR
    refine go_iast dX12_asksOf_67 sh132 (by unfold vp_in; decide) ?_
    refine go_aload_n (x := 82) dX12_asksOf_68 rfl ?_
    refine go_getR (x := 132) dX12_asksOf_69 f12_163 sh82 (fun _ _ => rfl) (rf82_67 hR) ?_
    refine go_iconst (v := 5) dX12_asksOf_72 rfl ?_
    refine go_aload_n (x := 82) dX12_asksOf_73 rfl ?_
    refine go_iload_n (x := a1) dX12_asksOf_74 rfl ?_
    refine gvI1 MX12_handOf dX12_asksOf_75 lX12_519 kX12_handOf vX12_handOf sh82 (by decide) rfl (Nat.le_of_ble_eq_true rfl) vc ?_
    intro v6 h6 vc
    obtain ⟨hR6, vc⟩ := vc
    replace hR := hR6.trans hR
    refine go_iconst (v := (-1)) dX12_asksOf_78 rfl ?_
    refine go_icmp_ne 86 dX12_asksOf_79 rfl (fun q => ?_) (fun q => ?_)
    · replace vc := vc.1 q
      refine go_aload_n (x := 82) dX12_asksOf_86 rfl ?_
      refine go_getR (x := 123) dX12_asksOf_87 f12_136 sh82 (fun _ _ => rfl) (rf82_50 hR) ?_
      refine go_bipush (v := 6) dX12_asksOf_90 rfl ?_
      refine go_aload_n (x := 82) dX12_asksOf_92 rfl ?_
      refine go_iload_n (x := a1) dX12_asksOf_93 rfl ?_
      refine gvI1 MX12_handOf dX12_asksOf_94 lX12_519 kX12_handOf vX12_handOf sh82 (by decide) rfl (Nat.le_of_ble_eq_true rfl) vc ?_
      intro v7 h7 vc
      obtain ⟨hR7, vc⟩ := vc
      replace hR := hR7.trans hR
      refine go_iadd dX12_asksOf_97 ?_
      refine go_iald' (v := (h7.1 123 ((6 + v7) : Int32).toNatClampNeg)) dX12_asksOf_98 sh123 vc.1 rfl ?_
      have vc := vc.2
      refine go_iast dX12_asksOf_99 sh132 (by unfold vp_in; decide) ?_
      refine go_aload_n (x := 82) dX12_asksOf_100 rfl ?_
      refine go_getR (x := 132) dX12_asksOf_101 f12_163 sh82 (fun _ _ => rfl) (rf82_67 hR) ?_
      refine go_bipush (v := 6) dX12_asksOf_104 rfl ?_
      refine go_iload_n (x := a3) dX12_asksOf_106 rfl ?_
      refine go_iconst (v := (-1)) dX12_asksOf_107 rfl ?_
      refine go_icmp_ne 115 dX12_asksOf_108 rfl (fun q => ?_) (fun q => ?_)
      · replace vc := vc.1 q
        refine go_iconst (v := 1) dX12_asksOf_115 rfl ?_
        refine go_iast dX12_asksOf_116 sh132 (by unfold vp_in; decide) ?_
        refine go_aload_n (x := 82) dX12_asksOf_117 rfl ?_
        refine go_getR (x := 132) dX12_asksOf_118 f12_163 sh82 (fun _ _ => rfl) (rf82_67 hR) ?_
        refine go_bipush (v := 7) dX12_asksOf_121 rfl ?_
        refine go_iload_n (x := a3) dX12_asksOf_123 rfl ?_
        refine go_iconst (v := (-1)) dX12_asksOf_124 rfl ?_
        refine go_icmp_ne 132 dX12_asksOf_125 rfl (fun q => ?_) (fun q => ?_)
        · replace vc := vc.1 q
          refine go_iload_n (x := a3) dX12_asksOf_132 rfl ?_
          refine go_iast dX12_asksOf_133 sh132 (by unfold vp_in; decide) ?_
          refine go_aload_n (x := 82) dX12_asksOf_134 rfl ?_
          refine go_getR (x := 132) dX12_asksOf_135 f12_163 sh82 (fun _ _ => rfl) (rf82_67 hR) ?_
          refine go_bipush (v := 8) dX12_asksOf_138 rfl ?_
          refine go_aload_n (x := 82) dX12_asksOf_140 rfl ?_
          refine go_iload_n (x := a1) dX12_asksOf_141 rfl ?_
          refine gvI1 MX12_trustOf dX12_asksOf_142 lX12_522 kX12_trustOf vX12_trustOf sh82 (by decide) rfl (Nat.le_of_ble_eq_true rfl) vc ?_
          intro v8 h8 vc
          obtain ⟨hR8, vc⟩ := vc
          replace hR := hR8.trans hR
          refine go_iast dX12_asksOf_145 sh132 (by unfold vp_in; decide) ?_
          exact go_vret dX12_asksOf_146 rfl vc rfl (Nat.le_refl _) (Nat.le_refl _)
        · replace vc := vc.2 q
          refine go_iconst (v := 0) dX12_asksOf_128 rfl ?_
          refine go_goto 133 dX12_asksOf_129 rfl ?_
          refine go_iast dX12_asksOf_133 sh132 (by unfold vp_in; decide) ?_
          refine go_aload_n (x := 82) dX12_asksOf_134 rfl ?_
          refine go_getR (x := 132) dX12_asksOf_135 f12_163 sh82 (fun _ _ => rfl) (rf82_67 hR) ?_
          refine go_bipush (v := 8) dX12_asksOf_138 rfl ?_
          refine go_aload_n (x := 82) dX12_asksOf_140 rfl ?_
          refine go_iload_n (x := a1) dX12_asksOf_141 rfl ?_
          refine gvI1 MX12_trustOf dX12_asksOf_142 lX12_522 kX12_trustOf vX12_trustOf sh82 (by decide) rfl (Nat.le_of_ble_eq_true rfl) vc ?_
          intro v9 h9 vc
          obtain ⟨hR9, vc⟩ := vc
          replace hR := hR9.trans hR
          refine go_iast dX12_asksOf_145 sh132 (by unfold vp_in; decide) ?_
          exact go_vret dX12_asksOf_146 rfl vc rfl (Nat.le_refl _) (Nat.le_refl _)
      · replace vc := vc.2 q
        refine go_iconst (v := 0) dX12_asksOf_111 rfl ?_
        refine go_goto 116 dX12_asksOf_112 rfl ?_
        refine go_iast dX12_asksOf_116 sh132 (by unfold vp_in; decide) ?_
        refine go_aload_n (x := 82) dX12_asksOf_117 rfl ?_
        refine go_getR (x := 132) dX12_asksOf_118 f12_163 sh82 (fun _ _ => rfl) (rf82_67 hR) ?_
        refine go_bipush (v := 7) dX12_asksOf_121 rfl ?_
        refine go_iload_n (x := a3) dX12_asksOf_123 rfl ?_
        refine go_iconst (v := (-1)) dX12_asksOf_124 rfl ?_
        refine go_icmp_ne 132 dX12_asksOf_125 rfl (fun q => ?_) (fun q => ?_)
        · replace vc := vc.1 q
          refine go_iload_n (x := a3) dX12_asksOf_132 rfl ?_
          refine go_iast dX12_asksOf_133 sh132 (by unfold vp_in; decide) ?_
          refine go_aload_n (x := 82) dX12_asksOf_134 rfl ?_
          refine go_getR (x := 132) dX12_asksOf_135 f12_163 sh82 (fun _ _ => rfl) (rf82_67 hR) ?_
          refine go_bipush (v := 8) dX12_asksOf_138 rfl ?_
          refine go_aload_n (x := 82) dX12_asksOf_140 rfl ?_
          refine go_iload_n (x := a1) dX12_asksOf_141 rfl ?_
          refine gvI1 MX12_trustOf dX12_asksOf_142 lX12_522 kX12_trustOf vX12_trustOf sh82 (by decide) rfl (Nat.le_of_ble_eq_true rfl) vc ?_
          intro v10 h10 vc
          obtain ⟨hR10, vc⟩ := vc
          replace hR := hR10.trans hR
          refine go_iast dX12_asksOf_145 sh132 (by unfold vp_in; decide) ?_
          exact go_vret dX12_asksOf_146 rfl vc rfl (Nat.le_refl _) (Nat.le_refl _)
        · replace vc := vc.2 q
          refine go_iconst (v := 0) dX12_asksOf_128 rfl ?_
          refine go_goto 133 dX12_asksOf_129 rfl ?_
          refine go_iast dX12_asksOf_133 sh132 (by unfold vp_in; decide) ?_
          refine go_aload_n (x := 82) dX12_asksOf_134 rfl ?_
          refine go_getR (x := 132) dX12_asksOf_135 f12_163 sh82 (fun _ _ => rfl) (rf82_67 hR) ?_
          refine go_bipush (v := 8) dX12_asksOf_138 rfl ?_
          refine go_aload_n (x := 82) dX12_asksOf_140 rfl ?_
          refine go_iload_n (x := a1) dX12_asksOf_141 rfl ?_
          refine gvI1 MX12_trustOf dX12_asksOf_142 lX12_522 kX12_trustOf vX12_trustOf sh82 (by decide) rfl (Nat.le_of_ble_eq_true rfl) vc ?_
          intro v11 h11 vc
          obtain ⟨hR11, vc⟩ := vc
          replace hR := hR11.trans hR
          refine go_iast dX12_asksOf_145 sh132 (by unfold vp_in; decide) ?_
          exact go_vret dX12_asksOf_146 rfl vc rfl (Nat.le_refl _) (Nat.le_refl _)
    · replace vc := vc.2 q
      refine go_iconst (v := 0) dX12_asksOf_82 rfl ?_
      refine go_goto 99 dX12_asksOf_83 rfl ?_
      refine go_iast dX12_asksOf_99 sh132 (by unfold vp_in; decide) ?_
      refine go_aload_n (x := 82) dX12_asksOf_100 rfl ?_
      refine go_getR (x := 132) dX12_asksOf_101 f12_163 sh82 (fun _ _ => rfl) (rf82_67 hR) ?_
      refine go_bipush (v := 6) dX12_asksOf_104 rfl ?_
      refine go_iload_n (x := a3) dX12_asksOf_106 rfl ?_
      refine go_iconst (v := (-1)) dX12_asksOf_107 rfl ?_
      refine go_icmp_ne 115 dX12_asksOf_108 rfl (fun q => ?_) (fun q => ?_)
      · replace vc := vc.1 q
        refine go_iconst (v := 1) dX12_asksOf_115 rfl ?_
        refine go_iast dX12_asksOf_116 sh132 (by unfold vp_in; decide) ?_
        refine go_aload_n (x := 82) dX12_asksOf_117 rfl ?_
        refine go_getR (x := 132) dX12_asksOf_118 f12_163 sh82 (fun _ _ => rfl) (rf82_67 hR) ?_
        refine go_bipush (v := 7) dX12_asksOf_121 rfl ?_
        refine go_iload_n (x := a3) dX12_asksOf_123 rfl ?_
        refine go_iconst (v := (-1)) dX12_asksOf_124 rfl ?_
        refine go_icmp_ne 132 dX12_asksOf_125 rfl (fun q => ?_) (fun q => ?_)
        · replace vc := vc.1 q
          refine go_iload_n (x := a3) dX12_asksOf_132 rfl ?_
          refine go_iast dX12_asksOf_133 sh132 (by unfold vp_in; decide) ?_
          refine go_aload_n (x := 82) dX12_asksOf_134 rfl ?_
          refine go_getR (x := 132) dX12_asksOf_135 f12_163 sh82 (fun _ _ => rfl) (rf82_67 hR) ?_
          refine go_bipush (v := 8) dX12_asksOf_138 rfl ?_
          refine go_aload_n (x := 82) dX12_asksOf_140 rfl ?_
          refine go_iload_n (x := a1) dX12_asksOf_141 rfl ?_
          refine gvI1 MX12_trustOf dX12_asksOf_142 lX12_522 kX12_trustOf vX12_trustOf sh82 (by decide) rfl (Nat.le_of_ble_eq_true rfl) vc ?_
          intro v12 h12 vc
          obtain ⟨hR12, vc⟩ := vc
          replace hR := hR12.trans hR
          refine go_iast dX12_asksOf_145 sh132 (by unfold vp_in; decide) ?_
          exact go_vret dX12_asksOf_146 rfl vc rfl (Nat.le_refl _) (Nat.le_refl _)
        · replace vc := vc.2 q
          refine go_iconst (v := 0) dX12_asksOf_128 rfl ?_
          refine go_goto 133 dX12_asksOf_129 rfl ?_
          refine go_iast dX12_asksOf_133 sh132 (by unfold vp_in; decide) ?_
          refine go_aload_n (x := 82) dX12_asksOf_134 rfl ?_
          refine go_getR (x := 132) dX12_asksOf_135 f12_163 sh82 (fun _ _ => rfl) (rf82_67 hR) ?_
          refine go_bipush (v := 8) dX12_asksOf_138 rfl ?_
          refine go_aload_n (x := 82) dX12_asksOf_140 rfl ?_
          refine go_iload_n (x := a1) dX12_asksOf_141 rfl ?_
          refine gvI1 MX12_trustOf dX12_asksOf_142 lX12_522 kX12_trustOf vX12_trustOf sh82 (by decide) rfl (Nat.le_of_ble_eq_true rfl) vc ?_
          intro v13 h13 vc
          obtain ⟨hR13, vc⟩ := vc
          replace hR := hR13.trans hR
          refine go_iast dX12_asksOf_145 sh132 (by unfold vp_in; decide) ?_
          exact go_vret dX12_asksOf_146 rfl vc rfl (Nat.le_refl _) (Nat.le_refl _)
      · replace vc := vc.2 q
        refine go_iconst (v := 0) dX12_asksOf_111 rfl ?_
        refine go_goto 116 dX12_asksOf_112 rfl ?_
        refine go_iast dX12_asksOf_116 sh132 (by unfold vp_in; decide) ?_
        refine go_aload_n (x := 82) dX12_asksOf_117 rfl ?_
        refine go_getR (x := 132) dX12_asksOf_118 f12_163 sh82 (fun _ _ => rfl) (rf82_67 hR) ?_
        refine go_bipush (v := 7) dX12_asksOf_121 rfl ?_
        refine go_iload_n (x := a3) dX12_asksOf_123 rfl ?_
        refine go_iconst (v := (-1)) dX12_asksOf_124 rfl ?_
        refine go_icmp_ne 132 dX12_asksOf_125 rfl (fun q => ?_) (fun q => ?_)
        · replace vc := vc.1 q
          refine go_iload_n (x := a3) dX12_asksOf_132 rfl ?_
          refine go_iast dX12_asksOf_133 sh132 (by unfold vp_in; decide) ?_
          refine go_aload_n (x := 82) dX12_asksOf_134 rfl ?_
          refine go_getR (x := 132) dX12_asksOf_135 f12_163 sh82 (fun _ _ => rfl) (rf82_67 hR) ?_
          refine go_bipush (v := 8) dX12_asksOf_138 rfl ?_
          refine go_aload_n (x := 82) dX12_asksOf_140 rfl ?_
          refine go_iload_n (x := a1) dX12_asksOf_141 rfl ?_
          refine gvI1 MX12_trustOf dX12_asksOf_142 lX12_522 kX12_trustOf vX12_trustOf sh82 (by decide) rfl (Nat.le_of_ble_eq_true rfl) vc ?_
          intro v14 h14 vc
          obtain ⟨hR14, vc⟩ := vc
          replace hR := hR14.trans hR
          refine go_iast dX12_asksOf_145 sh132 (by unfold vp_in; decide) ?_
          exact go_vret dX12_asksOf_146 rfl vc rfl (Nat.le_refl _) (Nat.le_refl _)
        · replace vc := vc.2 q
          refine go_iconst (v := 0) dX12_asksOf_128 rfl ?_
          refine go_goto 133 dX12_asksOf_129 rfl ?_
          refine go_iast dX12_asksOf_133 sh132 (by unfold vp_in; decide) ?_
          refine go_aload_n (x := 82) dX12_asksOf_134 rfl ?_
          refine go_getR (x := 132) dX12_asksOf_135 f12_163 sh82 (fun _ _ => rfl) (rf82_67 hR) ?_
          refine go_bipush (v := 8) dX12_asksOf_138 rfl ?_
          refine go_aload_n (x := 82) dX12_asksOf_140 rfl ?_
          refine go_iload_n (x := a1) dX12_asksOf_141 rfl ?_
          refine gvI1 MX12_trustOf dX12_asksOf_142 lX12_522 kX12_trustOf vX12_trustOf sh82 (by decide) rfl (Nat.le_of_ble_eq_true rfl) vc ?_
          intro v15 h15 vc
          obtain ⟨hR15, vc⟩ := vc
          replace hR := hR15.trans hR
          refine go_iast dX12_asksOf_145 sh132 (by unfold vp_in; decide) ?_
          exact go_vret dX12_asksOf_146 rfl vc rfl (Nat.le_refl _) (Nat.le_refl _)
  · replace vc := vc.2 q
    refine go_iconst (v := 1) dX12_asksOf_24 rfl ?_
    refine go_goto 29 dX12_asksOf_25 rfl ?_
    refine go_iast dX12_asksOf_29 sh132 (by unfold vp_in; decide) ?_
    refine go_aload_n (x := 82) dX12_asksOf_30 rfl ?_
    refine go_getR (x := 132) dX12_asksOf_31 f12_163 sh82 (fun _ _ => rfl) (rf82_67 hR) ?_
    refine go_iconst (v := 2) dX12_asksOf_34 rfl ?_
    refine go_aload_n (x := 82) dX12_asksOf_35 rfl ?_
    refine go_iload_n (x := a2) dX12_asksOf_36 rfl ?_
    refine gvI1 MX12_homeOf dX12_asksOf_37 lX12_510 kX12_homeOf vX12_homeOf sh82 (by decide) rfl (Nat.le_of_ble_eq_true rfl) vc ?_
    intro v16 h16 vc
    obtain ⟨hR16, vc⟩ := vc
    replace hR := hR16.trans hR
    refine go_iast dX12_asksOf_40 sh132 (by unfold vp_in; decide) ?_
    refine go_aload_n (x := 82) dX12_asksOf_41 rfl ?_
    refine go_getR (x := 132) dX12_asksOf_42 f12_163 sh82 (fun _ _ => rfl) (rf82_67 hR) ?_
    refine go_iconst (v := 3) dX12_asksOf_45 rfl ?_
    refine go_aload_n (x := 82) dX12_asksOf_46 rfl ?_
    refine go_aload_n (x := 82) dX12_asksOf_47 rfl ?_
    refine go_getR (x := 133) dX12_asksOf_48 f12_166 sh82 (fun _ _ => rfl) (rf82_68 hR) ?_
    refine go_iconst (v := 0) dX12_asksOf_51 rfl ?_
    refine go_iald' (v := (h16.1 133 0)) dX12_asksOf_52 sh133 (by unfold vp_in; decide) rfl ?_
    refine gvI1 MX12_skyIn dX12_asksOf_53 lX12_513 kX12_skyIn vX12_skyIn sh82 (by decide) rfl (Nat.le_of_ble_eq_true rfl) vc ?_
    intro v17 h17 vc
    obtain ⟨hR17, vc⟩ := vc
    replace hR := hR17.trans hR
    refine go_iast dX12_asksOf_56 sh132 (by unfold vp_in; decide) ?_
    refine go_aload_n (x := 82) dX12_asksOf_57 rfl ?_
    refine go_getR (x := 132) dX12_asksOf_58 f12_163 sh82 (fun _ _ => rfl) (rf82_67 hR) ?_
    refine go_iconst (v := 4) dX12_asksOf_61 rfl ?_
    refine go_aload_n (x := 82) dX12_asksOf_62 rfl ?_
    refine go_iload_n (x := a1) dX12_asksOf_63 rfl ?_
    refine gvI1 MX12_balksOf dX12_asksOf_64 lX12_516 kX12_balksOf vX12_balksOf sh82 (by decide) rfl (Nat.le_of_ble_eq_true rfl) vc ?_
    intro v18 h18 vc
    obtain ⟨hR18, vc⟩ := vc
    replace hR := hR18.trans hR
    refine go_iast dX12_asksOf_67 sh132 (by unfold vp_in; decide) ?_
    refine go_aload_n (x := 82) dX12_asksOf_68 rfl ?_
    refine go_getR (x := 132) dX12_asksOf_69 f12_163 sh82 (fun _ _ => rfl) (rf82_67 hR) ?_
    refine go_iconst (v := 5) dX12_asksOf_72 rfl ?_
    refine go_aload_n (x := 82) dX12_asksOf_73 rfl ?_
    refine go_iload_n (x := a1) dX12_asksOf_74 rfl ?_
    refine gvI1 MX12_handOf dX12_asksOf_75 lX12_519 kX12_handOf vX12_handOf sh82 (by decide) rfl (Nat.le_of_ble_eq_true rfl) vc ?_
    intro v19 h19 vc
    obtain ⟨hR19, vc⟩ := vc
    replace hR := hR19.trans hR
    refine go_iconst (v := (-1)) dX12_asksOf_78 rfl ?_
    refine go_icmp_ne 86 dX12_asksOf_79 rfl (fun q => ?_) (fun q => ?_)
    · replace vc := vc.1 q
      refine go_aload_n (x := 82) dX12_asksOf_86 rfl ?_
      refine go_getR (x := 123) dX12_asksOf_87 f12_136 sh82 (fun _ _ => rfl) (rf82_50 hR) ?_
      refine go_bipush (v := 6) dX12_asksOf_90 rfl ?_
      refine go_aload_n (x := 82) dX12_asksOf_92 rfl ?_
      refine go_iload_n (x := a1) dX12_asksOf_93 rfl ?_
      refine gvI1 MX12_handOf dX12_asksOf_94 lX12_519 kX12_handOf vX12_handOf sh82 (by decide) rfl (Nat.le_of_ble_eq_true rfl) vc ?_
      intro v20 h20 vc
      obtain ⟨hR20, vc⟩ := vc
      replace hR := hR20.trans hR
      refine go_iadd dX12_asksOf_97 ?_
      refine go_iald' (v := (h20.1 123 ((6 + v20) : Int32).toNatClampNeg)) dX12_asksOf_98 sh123 vc.1 rfl ?_
      have vc := vc.2
      refine go_iast dX12_asksOf_99 sh132 (by unfold vp_in; decide) ?_
      refine go_aload_n (x := 82) dX12_asksOf_100 rfl ?_
      refine go_getR (x := 132) dX12_asksOf_101 f12_163 sh82 (fun _ _ => rfl) (rf82_67 hR) ?_
      refine go_bipush (v := 6) dX12_asksOf_104 rfl ?_
      refine go_iload_n (x := a3) dX12_asksOf_106 rfl ?_
      refine go_iconst (v := (-1)) dX12_asksOf_107 rfl ?_
      refine go_icmp_ne 115 dX12_asksOf_108 rfl (fun q => ?_) (fun q => ?_)
      · replace vc := vc.1 q
        refine go_iconst (v := 1) dX12_asksOf_115 rfl ?_
        refine go_iast dX12_asksOf_116 sh132 (by unfold vp_in; decide) ?_
        refine go_aload_n (x := 82) dX12_asksOf_117 rfl ?_
        refine go_getR (x := 132) dX12_asksOf_118 f12_163 sh82 (fun _ _ => rfl) (rf82_67 hR) ?_
        refine go_bipush (v := 7) dX12_asksOf_121 rfl ?_
        refine go_iload_n (x := a3) dX12_asksOf_123 rfl ?_
        refine go_iconst (v := (-1)) dX12_asksOf_124 rfl ?_
        refine go_icmp_ne 132 dX12_asksOf_125 rfl (fun q => ?_) (fun q => ?_)
        · replace vc := vc.1 q
          refine go_iload_n (x := a3) dX12_asksOf_132 rfl ?_
          refine go_iast dX12_asksOf_133 sh132 (by unfold vp_in; decide) ?_
          refine go_aload_n (x := 82) dX12_asksOf_134 rfl ?_
          refine go_getR (x := 132) dX12_asksOf_135 f12_163 sh82 (fun _ _ => rfl) (rf82_67 hR) ?_
          refine go_bipush (v := 8) dX12_asksOf_138 rfl ?_
          refine go_aload_n (x := 82) dX12_asksOf_140 rfl ?_
          refine go_iload_n (x := a1) dX12_asksOf_141 rfl ?_
          refine gvI1 MX12_trustOf dX12_asksOf_142 lX12_522 kX12_trustOf vX12_trustOf sh82 (by decide) rfl (Nat.le_of_ble_eq_true rfl) vc ?_
          intro v21 h21 vc
          obtain ⟨hR21, vc⟩ := vc
          replace hR := hR21.trans hR
          refine go_iast dX12_asksOf_145 sh132 (by unfold vp_in; decide) ?_
          exact go_vret dX12_asksOf_146 rfl vc rfl (Nat.le_refl _) (Nat.le_refl _)
        · replace vc := vc.2 q
          refine go_iconst (v := 0) dX12_asksOf_128 rfl ?_
          refine go_goto 133 dX12_asksOf_129 rfl ?_
          refine go_iast dX12_asksOf_133 sh132 (by unfold vp_in; decide) ?_
          refine go_aload_n (x := 82) dX12_asksOf_134 rfl ?_
          refine go_getR (x := 132) dX12_asksOf_135 f12_163 sh82 (fun _ _ => rfl) (rf82_67 hR) ?_
          refine go_bipush (v := 8) dX12_asksOf_138 rfl ?_
          refine go_aload_n (x := 82) dX12_asksOf_140 rfl ?_
          refine go_iload_n (x := a1) dX12_asksOf_141 rfl ?_
          refine gvI1 MX12_trustOf dX12_asksOf_142 lX12_522 kX12_trustOf vX12_trustOf sh82 (by decide) rfl (Nat.le_of_ble_eq_true rfl) vc ?_
          intro v22 h22 vc
          obtain ⟨hR22, vc⟩ := vc
          replace hR := hR22.trans hR
          refine go_iast dX12_asksOf_145 sh132 (by unfold vp_in; decide) ?_
          exact go_vret dX12_asksOf_146 rfl vc rfl (Nat.le_refl _) (Nat.le_refl _)
      · replace vc := vc.2 q
        refine go_iconst (v := 0) dX12_asksOf_111 rfl ?_
        refine go_goto 116 dX12_asksOf_112 rfl ?_
        refine go_iast dX12_asksOf_116 sh132 (by unfold vp_in; decide) ?_
        refine go_aload_n (x := 82) dX12_asksOf_117 rfl ?_
        refine go_getR (x := 132) dX12_asksOf_118 f12_163 sh82 (fun _ _ => rfl) (rf82_67 hR) ?_
        refine go_bipush (v := 7) dX12_asksOf_121 rfl ?_
        refine go_iload_n (x := a3) dX12_asksOf_123 rfl ?_
        refine go_iconst (v := (-1)) dX12_asksOf_124 rfl ?_
        refine go_icmp_ne 132 dX12_asksOf_125 rfl (fun q => ?_) (fun q => ?_)
        · replace vc := vc.1 q
          refine go_iload_n (x := a3) dX12_asksOf_132 rfl ?_
          refine go_iast dX12_asksOf_133 sh132 (by unfold vp_in; decide) ?_
          refine go_aload_n (x := 82) dX12_asksOf_134 rfl ?_
          refine go_getR (x := 132) dX12_asksOf_135 f12_163 sh82 (fun _ _ => rfl) (rf82_67 hR) ?_
          refine go_bipush (v := 8) dX12_asksOf_138 rfl ?_
          refine go_aload_n (x := 82) dX12_asksOf_140 rfl ?_
          refine go_iload_n (x := a1) dX12_asksOf_141 rfl ?_
          refine gvI1 MX12_trustOf dX12_asksOf_142 lX12_522 kX12_trustOf vX12_trustOf sh82 (by decide) rfl (Nat.le_of_ble_eq_true rfl) vc ?_
          intro v23 h23 vc
          obtain ⟨hR23, vc⟩ := vc
          replace hR := hR23.trans hR
          refine go_iast dX12_asksOf_145 sh132 (by unfold vp_in; decide) ?_
          exact go_vret dX12_asksOf_146 rfl vc rfl (Nat.le_refl _) (Nat.le_refl _)
        · replace vc := vc.2 q
          refine go_iconst (v := 0) dX12_asksOf_128 rfl ?_
          refine go_goto 133 dX12_asksOf_129 rfl ?_
          refine go_iast dX12_asksOf_133 sh132 (by unfold vp_in; decide) ?_
          refine go_aload_n (x := 82) dX12_asksOf_134 rfl ?_
          refine go_getR (x := 132) dX12_asksOf_135 f12_163 sh82 (fun _ _ => rfl) (rf82_67 hR) ?_
          refine go_bipush (v := 8) dX12_asksOf_138 rfl ?_
          refine go_aload_n (x := 82) dX12_asksOf_140 rfl ?_
          refine go_iload_n (x := a1) dX12_asksOf_141 rfl ?_
          refine gvI1 MX12_trustOf dX12_asksOf_142 lX12_522 kX12_trustOf vX12_trustOf sh82 (by decide) rfl (Nat.le_of_ble_eq_true rfl) vc ?_
          intro v24 h24 vc
          obtain ⟨hR24, vc⟩ := vc
          replace hR := hR24.trans hR
          refine go_iast dX12_asksOf_145 sh132 (by unfold vp_in; decide) ?_
          exact go_vret dX12_asksOf_146 rfl vc rfl (Nat.le_refl _) (Nat.le_refl _)
    · replace vc := vc.2 q
      refine go_iconst (v := 0) dX12_asksOf_82 rfl ?_
      refine go_goto 99 dX12_asksOf_83 rfl ?_
      refine go_iast dX12_asksOf_99 sh132 (by unfold vp_in; decide) ?_
      refine go_aload_n (x := 82) dX12_asksOf_100 rfl ?_
      refine go_getR (x := 132) dX12_asksOf_101 f12_163 sh82 (fun _ _ => rfl) (rf82_67 hR) ?_
      refine go_bipush (v := 6) dX12_asksOf_104 rfl ?_
      refine go_iload_n (x := a3) dX12_asksOf_106 rfl ?_
      refine go_iconst (v := (-1)) dX12_asksOf_107 rfl ?_
      refine go_icmp_ne 115 dX12_asksOf_108 rfl (fun q => ?_) (fun q => ?_)
      · replace vc := vc.1 q
        refine go_iconst (v := 1) dX12_asksOf_115 rfl ?_
        refine go_iast dX12_asksOf_116 sh132 (by unfold vp_in; decide) ?_
        refine go_aload_n (x := 82) dX12_asksOf_117 rfl ?_
        refine go_getR (x := 132) dX12_asksOf_118 f12_163 sh82 (fun _ _ => rfl) (rf82_67 hR) ?_
        refine go_bipush (v := 7) dX12_asksOf_121 rfl ?_
        refine go_iload_n (x := a3) dX12_asksOf_123 rfl ?_
        refine go_iconst (v := (-1)) dX12_asksOf_124 rfl ?_
        refine go_icmp_ne 132 dX12_asksOf_125 rfl (fun q => ?_) (fun q => ?_)
        · replace vc := vc.1 q
          refine go_iload_n (x := a3) dX12_asksOf_132 rfl ?_
          refine go_iast dX12_asksOf_133 sh132 (by unfold vp_in; decide) ?_
          refine go_aload_n (x := 82) dX12_asksOf_134 rfl ?_
          refine go_getR (x := 132) dX12_asksOf_135 f12_163 sh82 (fun _ _ => rfl) (rf82_67 hR) ?_
          refine go_bipush (v := 8) dX12_asksOf_138 rfl ?_
          refine go_aload_n (x := 82) dX12_asksOf_140 rfl ?_
          refine go_iload_n (x := a1) dX12_asksOf_141 rfl ?_
          refine gvI1 MX12_trustOf dX12_asksOf_142 lX12_522 kX12_trustOf vX12_trustOf sh82 (by decide) rfl (Nat.le_of_ble_eq_true rfl) vc ?_
          intro v25 h25 vc
          obtain ⟨hR25, vc⟩ := vc
          replace hR := hR25.trans hR
          refine go_iast dX12_asksOf_145 sh132 (by unfold vp_in; decide) ?_
          exact go_vret dX12_asksOf_146 rfl vc rfl (Nat.le_refl _) (Nat.le_refl _)
        · replace vc := vc.2 q
          refine go_iconst (v := 0) dX12_asksOf_128 rfl ?_
          refine go_goto 133 dX12_asksOf_129 rfl ?_
          refine go_iast dX12_asksOf_133 sh132 (by unfold vp_in; decide) ?_
          refine go_aload_n (x := 82) dX12_asksOf_134 rfl ?_
          refine go_getR (x := 132) dX12_asksOf_135 f12_163 sh82 (fun _ _ => rfl) (rf82_67 hR) ?_
          refine go_bipush (v := 8) dX12_asksOf_138 rfl ?_
          refine go_aload_n (x := 82) dX12_asksOf_140 rfl ?_
          refine go_iload_n (x := a1) dX12_asksOf_141 rfl ?_
          refine gvI1 MX12_trustOf dX12_asksOf_142 lX12_522 kX12_trustOf vX12_trustOf sh82 (by decide) rfl (Nat.le_of_ble_eq_true rfl) vc ?_
          intro v26 h26 vc
          obtain ⟨hR26, vc⟩ := vc
          replace hR := hR26.trans hR
          refine go_iast dX12_asksOf_145 sh132 (by unfold vp_in; decide) ?_
          exact go_vret dX12_asksOf_146 rfl vc rfl (Nat.le_refl _) (Nat.le_refl _)
      · replace vc := vc.2 q
        refine go_iconst (v := 0) dX12_asksOf_111 rfl ?_
        refine go_goto 116 dX12_asksOf_112 rfl ?_
        refine go_iast dX12_asksOf_116 sh132 (by unfold vp_in; decide) ?_
        refine go_aload_n (x := 82) dX12_asksOf_117 rfl ?_
        refine go_getR (x := 132) dX12_asksOf_118 f12_163 sh82 (fun _ _ => rfl) (rf82_67 hR) ?_
        refine go_bipush (v := 7) dX12_asksOf_121 rfl ?_
        refine go_iload_n (x := a3) dX12_asksOf_123 rfl ?_
        refine go_iconst (v := (-1)) dX12_asksOf_124 rfl ?_
        refine go_icmp_ne 132 dX12_asksOf_125 rfl (fun q => ?_) (fun q => ?_)
        · replace vc := vc.1 q
          refine go_iload_n (x := a3) dX12_asksOf_132 rfl ?_
          refine go_iast dX12_asksOf_133 sh132 (by unfold vp_in; decide) ?_
          refine go_aload_n (x := 82) dX12_asksOf_134 rfl ?_
          refine go_getR (x := 132) dX12_asksOf_135 f12_163 sh82 (fun _ _ => rfl) (rf82_67 hR) ?_
          refine go_bipush (v := 8) dX12_asksOf_138 rfl ?_
          refine go_aload_n (x := 82) dX12_asksOf_140 rfl ?_
          refine go_iload_n (x := a1) dX12_asksOf_141 rfl ?_
          refine gvI1 MX12_trustOf dX12_asksOf_142 lX12_522 kX12_trustOf vX12_trustOf sh82 (by decide) rfl (Nat.le_of_ble_eq_true rfl) vc ?_
          intro v27 h27 vc
          obtain ⟨hR27, vc⟩ := vc
          replace hR := hR27.trans hR
          refine go_iast dX12_asksOf_145 sh132 (by unfold vp_in; decide) ?_
          exact go_vret dX12_asksOf_146 rfl vc rfl (Nat.le_refl _) (Nat.le_refl _)
        · replace vc := vc.2 q
          refine go_iconst (v := 0) dX12_asksOf_128 rfl ?_
          refine go_goto 133 dX12_asksOf_129 rfl ?_
          refine go_iast dX12_asksOf_133 sh132 (by unfold vp_in; decide) ?_
          refine go_aload_n (x := 82) dX12_asksOf_134 rfl ?_
          refine go_getR (x := 132) dX12_asksOf_135 f12_163 sh82 (fun _ _ => rfl) (rf82_67 hR) ?_
          refine go_bipush (v := 8) dX12_asksOf_138 rfl ?_
          refine go_aload_n (x := 82) dX12_asksOf_140 rfl ?_
          refine go_iload_n (x := a1) dX12_asksOf_141 rfl ?_
          refine gvI1 MX12_trustOf dX12_asksOf_142 lX12_522 kX12_trustOf vX12_trustOf sh82 (by decide) rfl (Nat.le_of_ble_eq_true rfl) vc ?_
          intro v28 h28 vc
          obtain ⟨hR28, vc⟩ := vc
          replace hR := hR28.trans hR
          refine go_iast dX12_asksOf_145 sh132 (by unfold vp_in; decide) ?_
          exact go_vret dX12_asksOf_146 rfl vc rfl (Nat.le_refl _) (Nat.le_refl _)
set_option maxRecDepth 20000 in
theorem wX12_told_0 {p : Program} {l : Launch} {e : Env} {s : State} {m : MethodId} {args : Array Value} {below : List Frame} {meth : Method} {c : Code} {G : gG} {d : Nat} {Q : Option Value → gH → Prop} {h : gH} {lk sp : Nat} {cd : Option Nat} {a1 : Int32} (hR : h.2.2 = gRF lk sp cd) (hlk : lk = 30 ∨ lk = 67) (hsp : sp = 30 ∨ sp = 67)  (vc : (vp_in ((3 + a1)) 6 ∧ gg p l e s m args below meth c G (d + 1) MX12_told Q 14 [some (.ref 82), some (.int a1), some (.int (h.1 127 ((3 + a1) : Int32).toNatClampNeg)), none] [] (sI h 82 66 0))) : gg p l e s m args below meth c G (d + 1) MX12_told Q 0 [some (.ref 82), some (.int a1), none, none] [] h := by
  refine go_aload_n (x := 82) dX12_told_0 rfl ?_
  refine go_iconst (v := 0) dX12_told_1 rfl ?_
  refine go_putI dX12_told_2 f12_462 sh82 rfl rfl ?_
  refine go_aload_n (x := 82) dX12_told_5 rfl ?_
  refine go_getR (x := 127) dX12_told_6 f12_148 sh82 (fun _ _ => rfl) (rf82_54 hR) ?_
  refine go_iconst (v := 3) dX12_told_9 rfl ?_
  refine go_iload_n (x := a1) dX12_told_10 rfl ?_
  refine go_iadd dX12_told_11 ?_
  refine go_iald' (v := (h.1 127 ((3 + a1) : Int32).toNatClampNeg)) dX12_told_12 sh127 vc.1 rfl ?_
  have vc := vc.2
  refine go_istore_n dX12_told_13 (Nat.le_of_ble_eq_true rfl) ?_
  show gg p l e s m args below meth c G (d + 1) MX12_told Q 14 [some (.ref 82), some (.int a1), some (.int (h.1 127 ((3 + a1) : Int32).toNatClampNeg)), none] [] (sI h 82 66 0)
  exact vc
set_option maxRecDepth 20000 in
theorem wX12_told_14 {p : Program} {l : Launch} {e : Env} {s : State} {m : MethodId} {args : Array Value} {below : List Frame} {meth : Method} {c : Code} {G : gG} {d : Nat} {Q : Option Value → gH → Prop} {h : gH} {lk sp : Nat} {cd : Option Nat} {x1 : Int32} {x2 : Int32} (hR : h.2.2 = gRF lk sp cd) (hlk : lk = 30 ∨ lk = 67) (hsp : sp = 30 ∨ sp = 67)  (vc : (vp_in ((3 + x1)) 6 ∧ (((h.1 128 ((3 + x1) : Int32).toNatClampNeg) ≤ x2 → ((0 ≤ (lg_cmp (h.2.1 131 0) 0) → (((lg_cmp (h.2.1 131 0) 99) ≤ 0 → Q (some (.int ((h.2.1 131 0) : Int64).toInt32)) h) ∧ (¬ (lg_cmp (h.2.1 131 0) 99) ≤ 0 → Q (some (.int 99)) h))) ∧ (¬ 0 ≤ (lg_cmp (h.2.1 131 0) 0) → Q (some (.int 0)) h))) ∧ (¬ (h.1 128 ((3 + x1) : Int32).toNatClampNeg) ≤ x2 → (vp_in ((1600 + x2)) 3200 ∧ (((h.1 129 ((1600 + x2) : Int32).toNatClampNeg) < 1000 → gC l G d MX12_isIn [.long ((h.1 129 ((1600 + x2) : Int32).toNatClampNeg) : Int32).toInt64, .long 7, .long 16] h (rI fun v1 h1 => h1.2.2 = (h).2.2 ∧ ((v1 = 0 → gC l G d MX12_joins [.ref 82, .int (h.1 129 ((1600 + x2) : Int32).toNatClampNeg)] h1 (rV fun h2 => h2.2.2 = (h1).2.2 ∧ gg p l e s m args below meth c G (d + 1) MX12_told Q 14 [some (.ref 82), some (.int x1), some (.int (x2 + 1)), none] [] h2)) ∧ (¬ v1 = 0 → (vp_in (((h.1 129 ((1600 + x2) : Int32).toNatClampNeg) - 7)) 10 ∧ gC l G d MX12_puts [.ref 82, .long ((h1.1 132 (((h.1 129 ((1600 + x2) : Int32).toNatClampNeg) - 7) : Int32).toNatClampNeg) : Int32).toInt64] h1 (rV fun h3 => h3.2.2 = (h1).2.2 ∧ gg p l e s m args below meth c G (d + 1) MX12_told Q 14 [some (.ref 82), some (.int x1), some (.int (x2 + 1)), none] [] h3)))))) ∧ (¬ (h.1 129 ((1600 + x2) : Int32).toNatClampNeg) < 1000 → gC l G d MX12_puts [.ref 82, .long (((h.1 129 ((1600 + x2) : Int32).toNatClampNeg) - 1000) : Int32).toInt64] h (rV fun h4 => h4.2.2 = (h).2.2 ∧ gg p l e s m args below meth c G (d + 1) MX12_told Q 14 [some (.ref 82), some (.int x1), some (.int (x2 + 1)), none] [] h4)))))))) : gg p l e s m args below meth c G (d + 1) MX12_told Q 14 [some (.ref 82), some (.int x1), some (.int x2), none] [] h := by
  refine go_iload_n (x := x2) dX12_told_14 rfl ?_
  refine go_aload_n (x := 82) dX12_told_15 rfl ?_
  refine go_getR (x := 128) dX12_told_16 f12_151 sh82 (fun _ _ => rfl) (rf82_55 hR) ?_
  refine go_iconst (v := 3) dX12_told_19 rfl ?_
  refine go_iload_n (x := x1) dX12_told_20 rfl ?_
  refine go_iadd dX12_told_21 ?_
  refine go_iald' (v := (h.1 128 ((3 + x1) : Int32).toNatClampNeg)) dX12_told_22 sh128 vc.1 rfl ?_
  have vc := vc.2
  refine go_icmp_ge 99 dX12_told_23 rfl (fun q => ?_) (fun q => ?_)
  · replace vc := vc.1 q
    refine go_aload_n (x := 82) dX12_told_99 rfl ?_
    refine go_getR (x := 131) dX12_told_100 f12_160 sh82 (fun _ _ => rfl) (rf82_65 hR) ?_
    refine go_iconst (v := 0) dX12_told_103 rfl ?_
    refine go_lald' (v := (h.2.1 131 0)) dX12_told_104 sh131 (by unfold vp_in; decide) rfl ?_
    refine go_lconst (v := 0) dX12_told_105 rfl ?_
    refine go_lcmp dX12_told_106 ?_
    refine go_if_ge 114 dX12_told_107 rfl (fun q => ?_) (fun q => ?_)
    · replace vc := vc.1 q
      refine go_aload_n (x := 82) dX12_told_114 rfl ?_
      refine go_getR (x := 131) dX12_told_115 f12_160 sh82 (fun _ _ => rfl) (rf82_65 hR) ?_
      refine go_iconst (v := 0) dX12_told_118 rfl ?_
      refine go_lald' (v := (h.2.1 131 0)) dX12_told_119 sh131 (by unfold vp_in; decide) rfl ?_
      refine go_ldc2 (v := 99) dX12_told_120 nX12_532 ?_
      refine go_lcmp dX12_told_123 ?_
      refine go_if_le 132 dX12_told_124 rfl (fun q => ?_) (fun q => ?_)
      · replace vc := vc.1 q
        refine go_aload_n (x := 82) dX12_told_132 rfl ?_
        refine go_getR (x := 131) dX12_told_133 f12_160 sh82 (fun _ _ => rfl) (rf82_65 hR) ?_
        refine go_iconst (v := 0) dX12_told_136 rfl ?_
        refine go_lald' (v := (h.2.1 131 0)) dX12_told_137 sh131 (by unfold vp_in; decide) rfl ?_
        refine go_l2i dX12_told_138 ?_
        exact go_iret dX12_told_139 rfl vc rfl (Nat.le_refl _) (Nat.le_refl _)
      · replace vc := vc.2 q
        refine go_bipush (v := 99) dX12_told_127 rfl ?_
        refine go_goto 139 dX12_told_129 rfl ?_
        exact go_iret dX12_told_139 rfl vc rfl (Nat.le_refl _) (Nat.le_refl _)
    · replace vc := vc.2 q
      refine go_iconst (v := 0) dX12_told_110 rfl ?_
      refine go_goto 139 dX12_told_111 rfl ?_
      exact go_iret dX12_told_139 rfl vc rfl (Nat.le_refl _) (Nat.le_refl _)
  · replace vc := vc.2 q
    refine go_aload_n (x := 82) dX12_told_26 rfl ?_
    refine go_getR (x := 129) dX12_told_27 f12_154 sh82 (fun _ _ => rfl) (rf82_59 hR) ?_
    refine go_sipush (v := 1600) dX12_told_30 rfl ?_
    refine go_iload_n (x := x2) dX12_told_33 rfl ?_
    refine go_iadd dX12_told_34 ?_
    refine go_iald' (v := (h.1 129 ((1600 + x2) : Int32).toNatClampNeg)) dX12_told_35 sh129 vc.1 rfl ?_
    have vc := vc.2
    refine go_istore_n dX12_told_36 (Nat.le_of_ble_eq_true rfl) ?_
    show gg p l e s m args below meth c G (d + 1) MX12_told Q 37 [some (.ref 82), some (.int x1), some (.int x2), some (.int (h.1 129 ((1600 + x2) : Int32).toNatClampNeg))] [] h
    refine go_iload_n (x := (h.1 129 ((1600 + x2) : Int32).toNatClampNeg)) dX12_told_37 rfl ?_
    refine go_sipush (v := 1000) dX12_told_38 rfl ?_
    refine go_icmp_lt 57 dX12_told_41 rfl (fun q => ?_) (fun q => ?_)
    · replace vc := vc.1 q
      refine go_iload_n (x := (h.1 129 ((1600 + x2) : Int32).toNatClampNeg)) dX12_told_57 rfl ?_
      refine go_i2l dX12_told_58 ?_
      refine go_ldc2 (v := 7) dX12_told_59 nX12_525 ?_
      refine go_ldc2 (v := 16) dX12_told_62 nX12_527 ?_
      refine gsI3 MX12_isIn dX12_told_65 lX12_321 kX12_isIn sX12_isIn (Nat.le_of_ble_eq_true rfl) vc ?_
      intro v1 h1 vc
      obtain ⟨hR1, vc⟩ := vc
      replace hR := hR1.trans hR
      refine go_if_eq 88 dX12_told_68 rfl (fun q => ?_) (fun q => ?_)
      · replace vc := vc.1 q
        refine go_aload_n (x := 82) dX12_told_88 rfl ?_
        refine go_iload_n (x := (h.1 129 ((1600 + x2) : Int32).toNatClampNeg)) dX12_told_89 rfl ?_
        refine gvV1 MX12_joins dX12_told_90 lX12_529 kX12_joins vX12_joins sh82 (by decide) rfl (Nat.le_of_ble_eq_true rfl) vc ?_
        intro h2 vc
        obtain ⟨hR2, vc⟩ := vc
        replace hR := hR2.trans hR
        refine go_iinc (x := x2) dX12_told_93 rfl ?_
        show gg p l e s m args below meth c G (d + 1) MX12_told Q 96 [some (.ref 82), some (.int x1), some (.int (x2 + 1)), some (.int (h.1 129 ((1600 + x2) : Int32).toNatClampNeg))] [] h2
        refine go_goto 14 dX12_told_96 rfl ?_
        refine go_weak (ls' := [some (.ref 82), some (.int x1), some (.int (x2 + 1)), none]) ?_ vc
        exact (⟨rfl, ⟨rfl, ⟨rfl, trivial⟩⟩⟩)
      · replace vc := vc.2 q
        refine go_aload_n (x := 82) dX12_told_71 rfl ?_
        refine go_aload_n (x := 82) dX12_told_72 rfl ?_
        refine go_getR (x := 132) dX12_told_73 f12_163 sh82 (fun _ _ => rfl) (rf82_67 hR) ?_
        refine go_iload_n (x := (h.1 129 ((1600 + x2) : Int32).toNatClampNeg)) dX12_told_76 rfl ?_
        refine go_bipush (v := 7) dX12_told_77 rfl ?_
        refine go_isub dX12_told_79 ?_
        refine go_iald' (v := (h1.1 132 (((h.1 129 ((1600 + x2) : Int32).toNatClampNeg) - 7) : Int32).toNatClampNeg)) dX12_told_80 sh132 vc.1 rfl ?_
        have vc := vc.2
        refine go_i2l dX12_told_81 ?_
        refine gvV1 MX12_puts dX12_told_82 lX12_469 kX12_puts vX12_puts sh82 (by decide) rfl (Nat.le_of_ble_eq_true rfl) vc ?_
        intro h3 vc
        obtain ⟨hR3, vc⟩ := vc
        replace hR := hR3.trans hR
        refine go_goto 93 dX12_told_85 rfl ?_
        refine go_iinc (x := x2) dX12_told_93 rfl ?_
        show gg p l e s m args below meth c G (d + 1) MX12_told Q 96 [some (.ref 82), some (.int x1), some (.int (x2 + 1)), some (.int (h.1 129 ((1600 + x2) : Int32).toNatClampNeg))] [] h3
        refine go_goto 14 dX12_told_96 rfl ?_
        refine go_weak (ls' := [some (.ref 82), some (.int x1), some (.int (x2 + 1)), none]) ?_ vc
        exact (⟨rfl, ⟨rfl, ⟨rfl, trivial⟩⟩⟩)
    · replace vc := vc.2 q
      refine go_aload_n (x := 82) dX12_told_44 rfl ?_
      refine go_iload_n (x := (h.1 129 ((1600 + x2) : Int32).toNatClampNeg)) dX12_told_45 rfl ?_
      refine go_sipush (v := 1000) dX12_told_46 rfl ?_
      refine go_isub dX12_told_49 ?_
      refine go_i2l dX12_told_50 ?_
      refine gvV1 MX12_puts dX12_told_51 lX12_469 kX12_puts vX12_puts sh82 (by decide) rfl (Nat.le_of_ble_eq_true rfl) vc ?_
      intro h4 vc
      obtain ⟨hR4, vc⟩ := vc
      replace hR := hR4.trans hR
      refine go_goto 93 dX12_told_54 rfl ?_
      refine go_iinc (x := x2) dX12_told_93 rfl ?_
      show gg p l e s m args below meth c G (d + 1) MX12_told Q 96 [some (.ref 82), some (.int x1), some (.int (x2 + 1)), some (.int (h.1 129 ((1600 + x2) : Int32).toNatClampNeg))] [] h4
      refine go_goto 14 dX12_told_96 rfl ?_
      refine go_weak (ls' := [some (.ref 82), some (.int x1), some (.int (x2 + 1)), none]) ?_ vc
      exact (⟨rfl, ⟨rfl, ⟨rfl, trivial⟩⟩⟩)
set_option maxRecDepth 20000 in
theorem wX12_dreadOf_0 {p : Program} {l : Launch} {e : Env} {s : State} {m : MethodId} {args : Array Value} {below : List Frame} {meth : Method} {c : Code} {G : gG} {d : Nat} {Q : Option Value → gH → Prop} {h : gH} {lk sp : Nat} {cd : Option Nat} {a1 : Int32} {a2 : Int32} {a3 : Int32} (hR : h.2.2 = gRF lk sp cd) (hlk : lk = 30 ∨ lk = 67) (hsp : sp = 30 ∨ sp = 67)  (vc : ((¬ (h.1 127 3) = (-1) → gC l G d MX12_asksOf [.ref 82, .int a1, .int a2, .int a3] h (rV fun h1 => h1.2.2 = (h).2.2 ∧ gC l G d MX12_told [.ref 82, .int 0] h1 (rI fun v2 h2 => h2.2.2 = (h1).2.2 ∧ Q (some (.int v2)) h2))) ∧ ((h.1 127 3) = (-1) → gC l G d MX12_depthOf [.ref 82, .int a2] h (rI fun v3 h3 => h3.2.2 = (h).2.2 ∧ Q (some (.int (10 * v3))) h3)))) : gg p l e s m args below meth c G (d + 1) MX12_dreadOf Q 0 [some (.ref 82), some (.int a1), some (.int a2), some (.int a3)] [] h := by
  refine go_aload_n (x := 82) dX12_dreadOf_0 rfl ?_
  refine go_getR (x := 127) dX12_dreadOf_1 f12_148 sh82 (fun _ _ => rfl) (rf82_54 hR) ?_
  refine go_iconst (v := 3) dX12_dreadOf_4 rfl ?_
  refine go_iald' (v := (h.1 127 3)) dX12_dreadOf_5 sh127 (by unfold vp_in; decide) rfl ?_
  refine go_iconst (v := (-1)) dX12_dreadOf_6 rfl ?_
  refine go_icmp_ne 19 dX12_dreadOf_7 rfl (fun q => ?_) (fun q => ?_)
  · replace vc := vc.1 q
    refine go_aload_n (x := 82) dX12_dreadOf_19 rfl ?_
    refine go_iload_n (x := a1) dX12_dreadOf_20 rfl ?_
    refine go_iload_n (x := a2) dX12_dreadOf_21 rfl ?_
    refine go_iload_n (x := a3) dX12_dreadOf_22 rfl ?_
    refine gvV3 MX12_asksOf dX12_dreadOf_23 lX12_534 kX12_asksOf vX12_asksOf sh82 (by decide) rfl (Nat.le_of_ble_eq_true rfl) vc ?_
    intro h1 vc
    obtain ⟨hR1, vc⟩ := vc
    replace hR := hR1.trans hR
    refine go_aload_n (x := 82) dX12_dreadOf_26 rfl ?_
    refine go_iconst (v := 0) dX12_dreadOf_27 rfl ?_
    refine gvI1 MX12_told dX12_dreadOf_28 lX12_538 kX12_told vX12_told sh82 (by decide) rfl (Nat.le_of_ble_eq_true rfl) vc ?_
    intro v2 h2 vc
    obtain ⟨hR2, vc⟩ := vc
    replace hR := hR2.trans hR
    exact go_iret dX12_dreadOf_31 rfl vc rfl (Nat.le_refl _) (Nat.le_refl _)
  · replace vc := vc.2 q
    refine go_bipush (v := 10) dX12_dreadOf_10 rfl ?_
    refine go_aload_n (x := 82) dX12_dreadOf_12 rfl ?_
    refine go_iload_n (x := a2) dX12_dreadOf_13 rfl ?_
    refine gvI1 MX12_depthOf dX12_dreadOf_14 lX12_507 kX12_depthOf vX12_depthOf sh82 (by decide) rfl (Nat.le_of_ble_eq_true rfl) vc ?_
    intro v3 h3 vc
    obtain ⟨hR3, vc⟩ := vc
    replace hR := hR3.trans hR
    refine go_imul dX12_dreadOf_17 ?_
    exact go_iret dX12_dreadOf_18 rfl vc rfl (Nat.le_refl _) (Nat.le_refl _)
set_option maxRecDepth 20000 in
theorem wX12_wouldGo_0 {p : Program} {l : Launch} {e : Env} {s : State} {m : MethodId} {args : Array Value} {below : List Frame} {meth : Method} {c : Code} {G : gG} {d : Nat} {Q : Option Value → gH → Prop} {h : gH} {lk sp : Nat} {cd : Option Nat} {a1 : Int32} {a2 : Int32} {a3 : Int32} (hR : h.2.2 = gRF lk sp cd) (hlk : lk = 30 ∨ lk = 67) (hsp : sp = 30 ∨ sp = 67)  (vc : gC l G d MX12_dreadOf [.ref 82, .int a1, .int a2, .int a3] h (rI fun v1 h1 => h1.2.2 = (h).2.2 ∧ gC l G d MX12_trustOf [.ref 82, .int a1] h1 (rI fun v2 h2 => h2.2.2 = (h1).2.2 ∧ ((v2 < v1 → Q (some (.int 0)) h2) ∧ (¬ v2 < v1 → Q (some (.int 1)) h2))))) : gg p l e s m args below meth c G (d + 1) MX12_wouldGo Q 0 [some (.ref 82), some (.int a1), some (.int a2), some (.int a3)] [] h := by
  refine go_aload_n (x := 82) dX12_wouldGo_0 rfl ?_
  refine go_iload_n (x := a1) dX12_wouldGo_1 rfl ?_
  refine go_iload_n (x := a2) dX12_wouldGo_2 rfl ?_
  refine go_iload_n (x := a3) dX12_wouldGo_3 rfl ?_
  refine gvI3 MX12_dreadOf dX12_wouldGo_4 lX12_541 kX12_dreadOf vX12_dreadOf sh82 (by decide) rfl (Nat.le_of_ble_eq_true rfl) vc ?_
  intro v1 h1 vc
  obtain ⟨hR1, vc⟩ := vc
  replace hR := hR1.trans hR
  refine go_aload_n (x := 82) dX12_wouldGo_7 rfl ?_
  refine go_iload_n (x := a1) dX12_wouldGo_8 rfl ?_
  refine gvI1 MX12_trustOf dX12_wouldGo_9 lX12_522 kX12_trustOf vX12_trustOf sh82 (by decide) rfl (Nat.le_of_ble_eq_true rfl) vc ?_
  intro v2 h2 vc
  obtain ⟨hR2, vc⟩ := vc
  replace hR := hR2.trans hR
  refine go_icmp_gt 19 dX12_wouldGo_12 rfl (fun q => ?_) (fun q => ?_)
  · replace vc := vc.1 q
    refine go_iconst (v := 0) dX12_wouldGo_19 rfl ?_
    exact go_zret dX12_wouldGo_20 rfl (by decide) vc rfl (Nat.le_refl _) (Nat.le_refl _)
  · replace vc := vc.2 q
    refine go_iconst (v := 1) dX12_wouldGo_15 rfl ?_
    refine go_goto 20 dX12_wouldGo_16 rfl ?_
    exact go_zret dX12_wouldGo_20 rfl (by decide) vc rfl (Nat.le_refl _) (Nat.le_refl _)
set_option maxRecDepth 20000 in
theorem wX12_learnt_0 {p : Program} {l : Launch} {e : Env} {s : State} {m : MethodId} {args : Array Value} {below : List Frame} {meth : Method} {c : Code} {G : gG} {d : Nat} {Q : Option Value → gH → Prop} {h : gH} {lk sp : Nat} {cd : Option Nat} {a1 : Int32} {a2 : Int32} {a3 : Int32} {a4 : Int32} (hR : h.2.2 = gRF lk sp cd) (hlk : lk = 30 ∨ lk = 67) (hsp : sp = 30 ∨ sp = 67)  (vc : ((a4 = 0 → (vp_in ((3 + 2)) 6 ∧ ((¬ (h.1 127 ((3 + 2) : Int32).toNatClampNeg) = (-1) → gC l G d MX12_dreadOf [.ref 82, .int a1, .int a2, .int a3] h (rI fun v1 h1 => h1.2.2 = (h).2.2 ∧ gC l G d MX12_asksOf [.ref 82, .int a1, .int a2, .int a3] h1 (rV fun h2 => h2.2.2 = (h1).2.2 ∧ gC l G d MX12_told [.ref 82, .int 2] (sI h2 132 9 v1) (rI fun v3 h3 => h3.2.2 = ((sI h2 132 9 v1)).2.2 ∧ Q (some (.int v3)) h3)))) ∧ ((h.1 127 ((3 + 2) : Int32).toNatClampNeg) = (-1) → gC l G d MX12_trustOf [.ref 82, .int a1] h (rI fun v4 h4 => h4.2.2 = (h).2.2 ∧ Q (some (.int v4)) h4))))) ∧ (¬ a4 = 0 → (vp_in ((3 + 1)) 6 ∧ ((¬ (h.1 127 ((3 + 1) : Int32).toNatClampNeg) = (-1) → gC l G d MX12_dreadOf [.ref 82, .int a1, .int a2, .int a3] h (rI fun v5 h5 => h5.2.2 = (h).2.2 ∧ gC l G d MX12_asksOf [.ref 82, .int a1, .int a2, .int a3] h5 (rV fun h6 => h6.2.2 = (h5).2.2 ∧ gC l G d MX12_told [.ref 82, .int 1] (sI h6 132 9 v5) (rI fun v7 h7 => h7.2.2 = ((sI h6 132 9 v5)).2.2 ∧ Q (some (.int v7)) h7)))) ∧ ((h.1 127 ((3 + 1) : Int32).toNatClampNeg) = (-1) → gC l G d MX12_trustOf [.ref 82, .int a1] h (rI fun v8 h8 => h8.2.2 = (h).2.2 ∧ Q (some (.int v8)) h8))))))) : gg p l e s m args below meth c G (d + 1) MX12_learnt Q 0 [some (.ref 82), some (.int a1), some (.int a2), some (.int a3), some (.int a4), none, none] [] h := by
  refine go_iload (x := a4) dX12_learnt_0 rfl ?_
  refine go_if_eq 9 dX12_learnt_2 rfl (fun q => ?_) (fun q => ?_)
  · replace vc := vc.1 q
    refine go_iconst (v := 2) dX12_learnt_9 rfl ?_
    refine go_istore dX12_learnt_10 (Nat.le_of_ble_eq_true rfl) ?_
    show gg p l e s m args below meth c G (d + 1) MX12_learnt Q 12 [some (.ref 82), some (.int a1), some (.int a2), some (.int a3), some (.int a4), some (.int 2), none] [] h
    refine go_aload_n (x := 82) dX12_learnt_12 rfl ?_
    refine go_getR (x := 127) dX12_learnt_13 f12_148 sh82 (fun _ _ => rfl) (rf82_54 hR) ?_
    refine go_iconst (v := 3) dX12_learnt_16 rfl ?_
    refine go_iload (x := 2) dX12_learnt_17 rfl ?_
    refine go_iadd dX12_learnt_19 ?_
    refine go_iald' (v := (h.1 127 ((3 + 2) : Int32).toNatClampNeg)) dX12_learnt_20 sh127 vc.1 rfl ?_
    have vc := vc.2
    refine go_iconst (v := (-1)) dX12_learnt_21 rfl ?_
    refine go_icmp_ne 31 dX12_learnt_22 rfl (fun q => ?_) (fun q => ?_)
    · replace vc := vc.1 q
      refine go_aload_n (x := 82) dX12_learnt_31 rfl ?_
      refine go_iload_n (x := a1) dX12_learnt_32 rfl ?_
      refine go_iload_n (x := a2) dX12_learnt_33 rfl ?_
      refine go_iload_n (x := a3) dX12_learnt_34 rfl ?_
      refine gvI3 MX12_dreadOf dX12_learnt_35 lX12_541 kX12_dreadOf vX12_dreadOf sh82 (by decide) rfl (Nat.le_of_ble_eq_true rfl) vc ?_
      intro v1 h1 vc
      obtain ⟨hR1, vc⟩ := vc
      replace hR := hR1.trans hR
      refine go_istore dX12_learnt_38 (Nat.le_of_ble_eq_true rfl) ?_
      show gg p l e s m args below meth c G (d + 1) MX12_learnt Q 40 [some (.ref 82), some (.int a1), some (.int a2), some (.int a3), some (.int a4), some (.int 2), some (.int v1)] [] h1
      refine go_aload_n (x := 82) dX12_learnt_40 rfl ?_
      refine go_iload_n (x := a1) dX12_learnt_41 rfl ?_
      refine go_iload_n (x := a2) dX12_learnt_42 rfl ?_
      refine go_iload_n (x := a3) dX12_learnt_43 rfl ?_
      refine gvV3 MX12_asksOf dX12_learnt_44 lX12_534 kX12_asksOf vX12_asksOf sh82 (by decide) rfl (Nat.le_of_ble_eq_true rfl) vc ?_
      intro h2 vc
      obtain ⟨hR2, vc⟩ := vc
      replace hR := hR2.trans hR
      refine go_aload_n (x := 82) dX12_learnt_47 rfl ?_
      refine go_getR (x := 132) dX12_learnt_48 f12_163 sh82 (fun _ _ => rfl) (rf82_67 hR) ?_
      refine go_bipush (v := 9) dX12_learnt_51 rfl ?_
      refine go_iload (x := v1) dX12_learnt_53 rfl ?_
      refine go_iast dX12_learnt_55 sh132 (by unfold vp_in; decide) ?_
      refine go_aload_n (x := 82) dX12_learnt_56 rfl ?_
      refine go_iload (x := 2) dX12_learnt_57 rfl ?_
      refine gvI1 MX12_told dX12_learnt_59 lX12_538 kX12_told vX12_told sh82 (by decide) rfl (Nat.le_of_ble_eq_true rfl) vc ?_
      intro v3 h3 vc
      obtain ⟨hR3, vc⟩ := vc
      replace hR := hR3.trans hR
      exact go_iret dX12_learnt_62 rfl vc rfl (Nat.le_refl _) (Nat.le_refl _)
    · replace vc := vc.2 q
      refine go_aload_n (x := 82) dX12_learnt_25 rfl ?_
      refine go_iload_n (x := a1) dX12_learnt_26 rfl ?_
      refine gvI1 MX12_trustOf dX12_learnt_27 lX12_522 kX12_trustOf vX12_trustOf sh82 (by decide) rfl (Nat.le_of_ble_eq_true rfl) vc ?_
      intro v4 h4 vc
      obtain ⟨hR4, vc⟩ := vc
      replace hR := hR4.trans hR
      exact go_iret dX12_learnt_30 rfl vc rfl (Nat.le_refl _) (Nat.le_refl _)
  · replace vc := vc.2 q
    refine go_iconst (v := 1) dX12_learnt_5 rfl ?_
    refine go_goto 10 dX12_learnt_6 rfl ?_
    refine go_istore dX12_learnt_10 (Nat.le_of_ble_eq_true rfl) ?_
    show gg p l e s m args below meth c G (d + 1) MX12_learnt Q 12 [some (.ref 82), some (.int a1), some (.int a2), some (.int a3), some (.int a4), some (.int 1), none] [] h
    refine go_aload_n (x := 82) dX12_learnt_12 rfl ?_
    refine go_getR (x := 127) dX12_learnt_13 f12_148 sh82 (fun _ _ => rfl) (rf82_54 hR) ?_
    refine go_iconst (v := 3) dX12_learnt_16 rfl ?_
    refine go_iload (x := 1) dX12_learnt_17 rfl ?_
    refine go_iadd dX12_learnt_19 ?_
    refine go_iald' (v := (h.1 127 ((3 + 1) : Int32).toNatClampNeg)) dX12_learnt_20 sh127 vc.1 rfl ?_
    have vc := vc.2
    refine go_iconst (v := (-1)) dX12_learnt_21 rfl ?_
    refine go_icmp_ne 31 dX12_learnt_22 rfl (fun q => ?_) (fun q => ?_)
    · replace vc := vc.1 q
      refine go_aload_n (x := 82) dX12_learnt_31 rfl ?_
      refine go_iload_n (x := a1) dX12_learnt_32 rfl ?_
      refine go_iload_n (x := a2) dX12_learnt_33 rfl ?_
      refine go_iload_n (x := a3) dX12_learnt_34 rfl ?_
      refine gvI3 MX12_dreadOf dX12_learnt_35 lX12_541 kX12_dreadOf vX12_dreadOf sh82 (by decide) rfl (Nat.le_of_ble_eq_true rfl) vc ?_
      intro v5 h5 vc
      obtain ⟨hR5, vc⟩ := vc
      replace hR := hR5.trans hR
      refine go_istore dX12_learnt_38 (Nat.le_of_ble_eq_true rfl) ?_
      show gg p l e s m args below meth c G (d + 1) MX12_learnt Q 40 [some (.ref 82), some (.int a1), some (.int a2), some (.int a3), some (.int a4), some (.int 1), some (.int v5)] [] h5
      refine go_aload_n (x := 82) dX12_learnt_40 rfl ?_
      refine go_iload_n (x := a1) dX12_learnt_41 rfl ?_
      refine go_iload_n (x := a2) dX12_learnt_42 rfl ?_
      refine go_iload_n (x := a3) dX12_learnt_43 rfl ?_
      refine gvV3 MX12_asksOf dX12_learnt_44 lX12_534 kX12_asksOf vX12_asksOf sh82 (by decide) rfl (Nat.le_of_ble_eq_true rfl) vc ?_
      intro h6 vc
      obtain ⟨hR6, vc⟩ := vc
      replace hR := hR6.trans hR
      refine go_aload_n (x := 82) dX12_learnt_47 rfl ?_
      refine go_getR (x := 132) dX12_learnt_48 f12_163 sh82 (fun _ _ => rfl) (rf82_67 hR) ?_
      refine go_bipush (v := 9) dX12_learnt_51 rfl ?_
      refine go_iload (x := v5) dX12_learnt_53 rfl ?_
      refine go_iast dX12_learnt_55 sh132 (by unfold vp_in; decide) ?_
      refine go_aload_n (x := 82) dX12_learnt_56 rfl ?_
      refine go_iload (x := 1) dX12_learnt_57 rfl ?_
      refine gvI1 MX12_told dX12_learnt_59 lX12_538 kX12_told vX12_told sh82 (by decide) rfl (Nat.le_of_ble_eq_true rfl) vc ?_
      intro v7 h7 vc
      obtain ⟨hR7, vc⟩ := vc
      replace hR := hR7.trans hR
      exact go_iret dX12_learnt_62 rfl vc rfl (Nat.le_refl _) (Nat.le_refl _)
    · replace vc := vc.2 q
      refine go_aload_n (x := 82) dX12_learnt_25 rfl ?_
      refine go_iload_n (x := a1) dX12_learnt_26 rfl ?_
      refine gvI1 MX12_trustOf dX12_learnt_27 lX12_522 kX12_trustOf vX12_trustOf sh82 (by decide) rfl (Nat.le_of_ble_eq_true rfl) vc ?_
      intro v8 h8 vc
      obtain ⟨hR8, vc⟩ := vc
      replace hR := hR8.trans hR
      exact go_iret dX12_learnt_30 rfl vc rfl (Nat.le_refl _) (Nat.le_refl _)
set_option maxRecDepth 20000 in
theorem wX12_isKept_0 {p : Program} {l : Launch} {e : Env} {s : State} {m : MethodId} {args : Array Value} {below : List Frame} {meth : Method} {c : Code} {G : gG} {d : Nat} {Q : Option Value → gH → Prop} {h : gH} {lk sp : Nat} {cd : Option Nat} {a1 : Int32} {a2 : Int32} {a3 : Int32} (hR : h.2.2 = gRF lk sp cd) (hlk : lk = 30 ∨ lk = 67) (hsp : sp = 30 ∨ sp = 67)  (vc : ((¬ (h.1 133 26) = 40 → (vp_in (((27 + (4 * ((h.1 133 26) + 1))) - 4)) 187 ∧ (vp_in ((((27 + (4 * ((h.1 133 26) + 1))) - 4) + 1)) 187 ∧ (vp_in ((((27 + (4 * ((h.1 133 26) + 1))) - 4) + 2)) 187 ∧ ((a3 = 0 → (vp_in ((((27 + (4 * ((h.1 133 26) + 1))) - 4) + 3)) 187 ∧ Q none (sI (sI (sI (sI (sI h 133 26 ((h.1 133 26) + 1)) 133 (((27 + (4 * ((h.1 133 26) + 1))) - 4) : Int32).toNatClampNeg (h.1 133 0)) 133 ((((27 + (4 * ((h.1 133 26) + 1))) - 4) + 1) : Int32).toNatClampNeg a1) 133 ((((27 + (4 * ((h.1 133 26) + 1))) - 4) + 2) : Int32).toNatClampNeg a2) 133 ((((27 + (4 * ((h.1 133 26) + 1))) - 4) + 3) : Int32).toNatClampNeg 0))) ∧ (¬ a3 = 0 → (vp_in ((((27 + (4 * ((h.1 133 26) + 1))) - 4) + 3)) 187 ∧ Q none (sI (sI (sI (sI (sI h 133 26 ((h.1 133 26) + 1)) 133 (((27 + (4 * ((h.1 133 26) + 1))) - 4) : Int32).toNatClampNeg (h.1 133 0)) 133 ((((27 + (4 * ((h.1 133 26) + 1))) - 4) + 1) : Int32).toNatClampNeg a1) 133 ((((27 + (4 * ((h.1 133 26) + 1))) - 4) + 2) : Int32).toNatClampNeg a2) 133 ((((27 + (4 * ((h.1 133 26) + 1))) - 4) + 3) : Int32).toNatClampNeg 1)))))))) ∧ ((h.1 133 26) = 40 → gg p l e s m args below meth c G d MX12_isKept Q 16 [some (.ref 82), some (.int a1), some (.int a2), some (.int a3), some (.int 27)] [] h))) : gg p l e s m args below meth c G d MX12_isKept Q 0 [some (.ref 82), some (.int a1), some (.int a2), some (.int a3), none] [] h := by
  refine go_aload_n (x := 82) dX12_isKept_0 rfl ?_
  refine go_getR (x := 133) dX12_isKept_1 f12_166 sh82 (fun _ _ => rfl) (rf82_68 hR) ?_
  refine go_bipush (v := 26) dX12_isKept_4 rfl ?_
  refine go_iald' (v := (h.1 133 26)) dX12_isKept_6 sh133 (by unfold vp_in; decide) rfl ?_
  refine go_bipush (v := 40) dX12_isKept_7 rfl ?_
  refine go_icmp_ne 49 dX12_isKept_9 rfl (fun q => ?_) (fun q => ?_)
  · replace vc := vc.1 q
    refine go_aload_n (x := 82) dX12_isKept_49 rfl ?_
    refine go_getR (x := 133) dX12_isKept_50 f12_166 sh82 (fun _ _ => rfl) (rf82_68 hR) ?_
    refine go_bipush (v := 26) dX12_isKept_53 rfl ?_
    refine go_dup2 dX12_isKept_55 rfl rfl ?_
    refine go_iald' (v := (h.1 133 26)) dX12_isKept_56 sh133 (by unfold vp_in; decide) rfl ?_
    refine go_iconst (v := 1) dX12_isKept_57 rfl ?_
    refine go_iadd dX12_isKept_58 ?_
    refine go_iast dX12_isKept_59 sh133 (by unfold vp_in; decide) ?_
    refine go_bipush (v := 27) dX12_isKept_60 rfl ?_
    refine go_iconst (v := 4) dX12_isKept_62 rfl ?_
    refine go_aload_n (x := 82) dX12_isKept_63 rfl ?_
    refine go_getR (x := 133) dX12_isKept_64 f12_166 sh82 (fun _ _ => rfl) (rf82_68 hR) ?_
    refine go_bipush (v := 26) dX12_isKept_67 rfl ?_
    refine go_iald' (v := ((h.1 133 26) + 1)) dX12_isKept_69 sh133 (by unfold vp_in; decide) rfl ?_
    refine go_imul dX12_isKept_70 ?_
    refine go_iadd dX12_isKept_71 ?_
    refine go_iconst (v := 4) dX12_isKept_72 rfl ?_
    refine go_isub dX12_isKept_73 ?_
    refine go_istore dX12_isKept_74 (Nat.le_of_ble_eq_true rfl) ?_
    show gg p l e s m args below meth c G d MX12_isKept Q 76 [some (.ref 82), some (.int a1), some (.int a2), some (.int a3), some (.int ((27 + (4 * ((h.1 133 26) + 1))) - 4))] [] (sI h 133 26 ((h.1 133 26) + 1))
    refine go_aload_n (x := 82) dX12_isKept_76 rfl ?_
    refine go_getR (x := 133) dX12_isKept_77 f12_166 sh82 (fun _ _ => rfl) (rf82_68 hR) ?_
    refine go_iload (x := ((27 + (4 * ((h.1 133 26) + 1))) - 4)) dX12_isKept_80 rfl ?_
    refine go_aload_n (x := 82) dX12_isKept_82 rfl ?_
    refine go_getR (x := 133) dX12_isKept_83 f12_166 sh82 (fun _ _ => rfl) (rf82_68 hR) ?_
    refine go_iconst (v := 0) dX12_isKept_86 rfl ?_
    refine go_iald' (v := (h.1 133 0)) dX12_isKept_87 sh133 (by unfold vp_in; decide) rfl ?_
    refine go_iast dX12_isKept_88 sh133 vc.1 ?_
    have vc := vc.2
    show gg p l e s m args below meth c G d MX12_isKept Q 89 [some (.ref 82), some (.int a1), some (.int a2), some (.int a3), some (.int ((27 + (4 * ((h.1 133 26) + 1))) - 4))] [] (sI (sI h 133 26 ((h.1 133 26) + 1)) 133 (((27 + (4 * ((h.1 133 26) + 1))) - 4) : Int32).toNatClampNeg (h.1 133 0))
    refine go_aload_n (x := 82) dX12_isKept_89 rfl ?_
    refine go_getR (x := 133) dX12_isKept_90 f12_166 sh82 (fun _ _ => rfl) (rf82_68 hR) ?_
    refine go_iload (x := ((27 + (4 * ((h.1 133 26) + 1))) - 4)) dX12_isKept_93 rfl ?_
    refine go_iconst (v := 1) dX12_isKept_95 rfl ?_
    refine go_iadd dX12_isKept_96 ?_
    refine go_iload_n (x := a1) dX12_isKept_97 rfl ?_
    refine go_iast dX12_isKept_98 sh133 vc.1 ?_
    have vc := vc.2
    show gg p l e s m args below meth c G d MX12_isKept Q 99 [some (.ref 82), some (.int a1), some (.int a2), some (.int a3), some (.int ((27 + (4 * ((h.1 133 26) + 1))) - 4))] [] (sI (sI (sI h 133 26 ((h.1 133 26) + 1)) 133 (((27 + (4 * ((h.1 133 26) + 1))) - 4) : Int32).toNatClampNeg (h.1 133 0)) 133 ((((27 + (4 * ((h.1 133 26) + 1))) - 4) + 1) : Int32).toNatClampNeg a1)
    refine go_aload_n (x := 82) dX12_isKept_99 rfl ?_
    refine go_getR (x := 133) dX12_isKept_100 f12_166 sh82 (fun _ _ => rfl) (rf82_68 hR) ?_
    refine go_iload (x := ((27 + (4 * ((h.1 133 26) + 1))) - 4)) dX12_isKept_103 rfl ?_
    refine go_iconst (v := 2) dX12_isKept_105 rfl ?_
    refine go_iadd dX12_isKept_106 ?_
    refine go_iload_n (x := a2) dX12_isKept_107 rfl ?_
    refine go_iast dX12_isKept_108 sh133 vc.1 ?_
    have vc := vc.2
    show gg p l e s m args below meth c G d MX12_isKept Q 109 [some (.ref 82), some (.int a1), some (.int a2), some (.int a3), some (.int ((27 + (4 * ((h.1 133 26) + 1))) - 4))] [] (sI (sI (sI (sI h 133 26 ((h.1 133 26) + 1)) 133 (((27 + (4 * ((h.1 133 26) + 1))) - 4) : Int32).toNatClampNeg (h.1 133 0)) 133 ((((27 + (4 * ((h.1 133 26) + 1))) - 4) + 1) : Int32).toNatClampNeg a1) 133 ((((27 + (4 * ((h.1 133 26) + 1))) - 4) + 2) : Int32).toNatClampNeg a2)
    refine go_aload_n (x := 82) dX12_isKept_109 rfl ?_
    refine go_getR (x := 133) dX12_isKept_110 f12_166 sh82 (fun _ _ => rfl) (rf82_68 hR) ?_
    refine go_iload (x := ((27 + (4 * ((h.1 133 26) + 1))) - 4)) dX12_isKept_113 rfl ?_
    refine go_iconst (v := 3) dX12_isKept_115 rfl ?_
    refine go_iadd dX12_isKept_116 ?_
    refine go_iload_n (x := a3) dX12_isKept_117 rfl ?_
    refine go_if_eq 125 dX12_isKept_118 rfl (fun q => ?_) (fun q => ?_)
    · replace vc := vc.1 q
      refine go_iconst (v := 0) dX12_isKept_125 rfl ?_
      refine go_iast dX12_isKept_126 sh133 vc.1 ?_
      have vc := vc.2
      show gg p l e s m args below meth c G d MX12_isKept Q 127 [some (.ref 82), some (.int a1), some (.int a2), some (.int a3), some (.int ((27 + (4 * ((h.1 133 26) + 1))) - 4))] [] (sI (sI (sI (sI (sI h 133 26 ((h.1 133 26) + 1)) 133 (((27 + (4 * ((h.1 133 26) + 1))) - 4) : Int32).toNatClampNeg (h.1 133 0)) 133 ((((27 + (4 * ((h.1 133 26) + 1))) - 4) + 1) : Int32).toNatClampNeg a1) 133 ((((27 + (4 * ((h.1 133 26) + 1))) - 4) + 2) : Int32).toNatClampNeg a2) 133 ((((27 + (4 * ((h.1 133 26) + 1))) - 4) + 3) : Int32).toNatClampNeg 0)
      exact go_vret dX12_isKept_127 rfl vc rfl (Nat.le_refl _) (Nat.le_refl _)
    · replace vc := vc.2 q
      refine go_iconst (v := 1) dX12_isKept_121 rfl ?_
      refine go_goto 126 dX12_isKept_122 rfl ?_
      refine go_iast dX12_isKept_126 sh133 vc.1 ?_
      have vc := vc.2
      show gg p l e s m args below meth c G d MX12_isKept Q 127 [some (.ref 82), some (.int a1), some (.int a2), some (.int a3), some (.int ((27 + (4 * ((h.1 133 26) + 1))) - 4))] [] (sI (sI (sI (sI (sI h 133 26 ((h.1 133 26) + 1)) 133 (((27 + (4 * ((h.1 133 26) + 1))) - 4) : Int32).toNatClampNeg (h.1 133 0)) 133 ((((27 + (4 * ((h.1 133 26) + 1))) - 4) + 1) : Int32).toNatClampNeg a1) 133 ((((27 + (4 * ((h.1 133 26) + 1))) - 4) + 2) : Int32).toNatClampNeg a2) 133 ((((27 + (4 * ((h.1 133 26) + 1))) - 4) + 3) : Int32).toNatClampNeg 1)
      exact go_vret dX12_isKept_127 rfl vc rfl (Nat.le_refl _) (Nat.le_refl _)
  · replace vc := vc.2 q
    refine go_bipush (v := 27) dX12_isKept_12 rfl ?_
    refine go_istore dX12_isKept_14 (Nat.le_of_ble_eq_true rfl) ?_
    show gg p l e s m args below meth c G d MX12_isKept Q 16 [some (.ref 82), some (.int a1), some (.int a2), some (.int a3), some (.int 27)] [] h
    exact vc
set_option maxRecDepth 20000 in
theorem wX12_isKept_16 {p : Program} {l : Launch} {e : Env} {s : State} {m : MethodId} {args : Array Value} {below : List Frame} {meth : Method} {c : Code} {G : gG} {d : Nat} {Q : Option Value → gH → Prop} {h : gH} {lk sp : Nat} {cd : Option Nat} {x1 : Int32} {x2 : Int32} {x3 : Int32} {x4 : Int32} (hR : h.2.2 = gRF lk sp cd) (hlk : lk = 30 ∨ lk = 67) (hsp : sp = 30 ∨ sp = 67)  (vc : ((183 ≤ x4 → (vp_in (((27 + (4 * (h.1 133 26))) - 4)) 187 ∧ (vp_in ((((27 + (4 * (h.1 133 26))) - 4) + 1)) 187 ∧ (vp_in ((((27 + (4 * (h.1 133 26))) - 4) + 2)) 187 ∧ ((x3 = 0 → (vp_in ((((27 + (4 * (h.1 133 26))) - 4) + 3)) 187 ∧ Q none (sI (sI (sI (sI h 133 (((27 + (4 * (h.1 133 26))) - 4) : Int32).toNatClampNeg (h.1 133 0)) 133 ((((27 + (4 * (h.1 133 26))) - 4) + 1) : Int32).toNatClampNeg x1) 133 ((((27 + (4 * (h.1 133 26))) - 4) + 2) : Int32).toNatClampNeg x2) 133 ((((27 + (4 * (h.1 133 26))) - 4) + 3) : Int32).toNatClampNeg 0))) ∧ (¬ x3 = 0 → (vp_in ((((27 + (4 * (h.1 133 26))) - 4) + 3)) 187 ∧ Q none (sI (sI (sI (sI h 133 (((27 + (4 * (h.1 133 26))) - 4) : Int32).toNatClampNeg (h.1 133 0)) 133 ((((27 + (4 * (h.1 133 26))) - 4) + 1) : Int32).toNatClampNeg x1) 133 ((((27 + (4 * (h.1 133 26))) - 4) + 2) : Int32).toNatClampNeg x2) 133 ((((27 + (4 * (h.1 133 26))) - 4) + 3) : Int32).toNatClampNeg 1)))))))) ∧ (¬ 183 ≤ x4 → (vp_in ((x4 + 4)) 187 ∧ (vp_in x4 187 ∧ gg p l e s m args below meth c G d MX12_isKept Q 16 [some (.ref 82), some (.int x1), some (.int x2), some (.int x3), some (.int (x4 + 1))] [] (sI h 133 x4.toNatClampNeg (h.1 133 ((x4 + 4) : Int32).toNatClampNeg))))))) : gg p l e s m args below meth c G d MX12_isKept Q 16 [some (.ref 82), some (.int x1), some (.int x2), some (.int x3), some (.int x4)] [] h := by
  refine go_iload (x := x4) dX12_isKept_16 rfl ?_
  refine go_sipush (v := 183) dX12_isKept_18 rfl ?_
  refine go_icmp_ge 46 dX12_isKept_21 rfl (fun q => ?_) (fun q => ?_)
  · replace vc := vc.1 q
    refine go_goto 60 dX12_isKept_46 rfl ?_
    refine go_bipush (v := 27) dX12_isKept_60 rfl ?_
    refine go_iconst (v := 4) dX12_isKept_62 rfl ?_
    refine go_aload_n (x := 82) dX12_isKept_63 rfl ?_
    refine go_getR (x := 133) dX12_isKept_64 f12_166 sh82 (fun _ _ => rfl) (rf82_68 hR) ?_
    refine go_bipush (v := 26) dX12_isKept_67 rfl ?_
    refine go_iald' (v := (h.1 133 26)) dX12_isKept_69 sh133 (by unfold vp_in; decide) rfl ?_
    refine go_imul dX12_isKept_70 ?_
    refine go_iadd dX12_isKept_71 ?_
    refine go_iconst (v := 4) dX12_isKept_72 rfl ?_
    refine go_isub dX12_isKept_73 ?_
    refine go_istore dX12_isKept_74 (Nat.le_of_ble_eq_true rfl) ?_
    show gg p l e s m args below meth c G d MX12_isKept Q 76 [some (.ref 82), some (.int x1), some (.int x2), some (.int x3), some (.int ((27 + (4 * (h.1 133 26))) - 4))] [] h
    refine go_aload_n (x := 82) dX12_isKept_76 rfl ?_
    refine go_getR (x := 133) dX12_isKept_77 f12_166 sh82 (fun _ _ => rfl) (rf82_68 hR) ?_
    refine go_iload (x := ((27 + (4 * (h.1 133 26))) - 4)) dX12_isKept_80 rfl ?_
    refine go_aload_n (x := 82) dX12_isKept_82 rfl ?_
    refine go_getR (x := 133) dX12_isKept_83 f12_166 sh82 (fun _ _ => rfl) (rf82_68 hR) ?_
    refine go_iconst (v := 0) dX12_isKept_86 rfl ?_
    refine go_iald' (v := (h.1 133 0)) dX12_isKept_87 sh133 (by unfold vp_in; decide) rfl ?_
    refine go_iast dX12_isKept_88 sh133 vc.1 ?_
    have vc := vc.2
    show gg p l e s m args below meth c G d MX12_isKept Q 89 [some (.ref 82), some (.int x1), some (.int x2), some (.int x3), some (.int ((27 + (4 * (h.1 133 26))) - 4))] [] (sI h 133 (((27 + (4 * (h.1 133 26))) - 4) : Int32).toNatClampNeg (h.1 133 0))
    refine go_aload_n (x := 82) dX12_isKept_89 rfl ?_
    refine go_getR (x := 133) dX12_isKept_90 f12_166 sh82 (fun _ _ => rfl) (rf82_68 hR) ?_
    refine go_iload (x := ((27 + (4 * (h.1 133 26))) - 4)) dX12_isKept_93 rfl ?_
    refine go_iconst (v := 1) dX12_isKept_95 rfl ?_
    refine go_iadd dX12_isKept_96 ?_
    refine go_iload_n (x := x1) dX12_isKept_97 rfl ?_
    refine go_iast dX12_isKept_98 sh133 vc.1 ?_
    have vc := vc.2
    show gg p l e s m args below meth c G d MX12_isKept Q 99 [some (.ref 82), some (.int x1), some (.int x2), some (.int x3), some (.int ((27 + (4 * (h.1 133 26))) - 4))] [] (sI (sI h 133 (((27 + (4 * (h.1 133 26))) - 4) : Int32).toNatClampNeg (h.1 133 0)) 133 ((((27 + (4 * (h.1 133 26))) - 4) + 1) : Int32).toNatClampNeg x1)
    refine go_aload_n (x := 82) dX12_isKept_99 rfl ?_
    refine go_getR (x := 133) dX12_isKept_100 f12_166 sh82 (fun _ _ => rfl) (rf82_68 hR) ?_
    refine go_iload (x := ((27 + (4 * (h.1 133 26))) - 4)) dX12_isKept_103 rfl ?_
    refine go_iconst (v := 2) dX12_isKept_105 rfl ?_
    refine go_iadd dX12_isKept_106 ?_
    refine go_iload_n (x := x2) dX12_isKept_107 rfl ?_
    refine go_iast dX12_isKept_108 sh133 vc.1 ?_
    have vc := vc.2
    show gg p l e s m args below meth c G d MX12_isKept Q 109 [some (.ref 82), some (.int x1), some (.int x2), some (.int x3), some (.int ((27 + (4 * (h.1 133 26))) - 4))] [] (sI (sI (sI h 133 (((27 + (4 * (h.1 133 26))) - 4) : Int32).toNatClampNeg (h.1 133 0)) 133 ((((27 + (4 * (h.1 133 26))) - 4) + 1) : Int32).toNatClampNeg x1) 133 ((((27 + (4 * (h.1 133 26))) - 4) + 2) : Int32).toNatClampNeg x2)
    refine go_aload_n (x := 82) dX12_isKept_109 rfl ?_
    refine go_getR (x := 133) dX12_isKept_110 f12_166 sh82 (fun _ _ => rfl) (rf82_68 hR) ?_
    refine go_iload (x := ((27 + (4 * (h.1 133 26))) - 4)) dX12_isKept_113 rfl ?_
    refine go_iconst (v := 3) dX12_isKept_115 rfl ?_
    refine go_iadd dX12_isKept_116 ?_
    refine go_iload_n (x := x3) dX12_isKept_117 rfl ?_
    refine go_if_eq 125 dX12_isKept_118 rfl (fun q => ?_) (fun q => ?_)
    · replace vc := vc.1 q
      refine go_iconst (v := 0) dX12_isKept_125 rfl ?_
      refine go_iast dX12_isKept_126 sh133 vc.1 ?_
      have vc := vc.2
      show gg p l e s m args below meth c G d MX12_isKept Q 127 [some (.ref 82), some (.int x1), some (.int x2), some (.int x3), some (.int ((27 + (4 * (h.1 133 26))) - 4))] [] (sI (sI (sI (sI h 133 (((27 + (4 * (h.1 133 26))) - 4) : Int32).toNatClampNeg (h.1 133 0)) 133 ((((27 + (4 * (h.1 133 26))) - 4) + 1) : Int32).toNatClampNeg x1) 133 ((((27 + (4 * (h.1 133 26))) - 4) + 2) : Int32).toNatClampNeg x2) 133 ((((27 + (4 * (h.1 133 26))) - 4) + 3) : Int32).toNatClampNeg 0)
      exact go_vret dX12_isKept_127 rfl vc rfl (Nat.le_refl _) (Nat.le_refl _)
    · replace vc := vc.2 q
      refine go_iconst (v := 1) dX12_isKept_121 rfl ?_
      refine go_goto 126 dX12_isKept_122 rfl ?_
      refine go_iast dX12_isKept_126 sh133 vc.1 ?_
      have vc := vc.2
      show gg p l e s m args below meth c G d MX12_isKept Q 127 [some (.ref 82), some (.int x1), some (.int x2), some (.int x3), some (.int ((27 + (4 * (h.1 133 26))) - 4))] [] (sI (sI (sI (sI h 133 (((27 + (4 * (h.1 133 26))) - 4) : Int32).toNatClampNeg (h.1 133 0)) 133 ((((27 + (4 * (h.1 133 26))) - 4) + 1) : Int32).toNatClampNeg x1) 133 ((((27 + (4 * (h.1 133 26))) - 4) + 2) : Int32).toNatClampNeg x2) 133 ((((27 + (4 * (h.1 133 26))) - 4) + 3) : Int32).toNatClampNeg 1)
      exact go_vret dX12_isKept_127 rfl vc rfl (Nat.le_refl _) (Nat.le_refl _)
  · replace vc := vc.2 q
    refine go_aload_n (x := 82) dX12_isKept_24 rfl ?_
    refine go_getR (x := 133) dX12_isKept_25 f12_166 sh82 (fun _ _ => rfl) (rf82_68 hR) ?_
    refine go_iload (x := x4) dX12_isKept_28 rfl ?_
    refine go_aload_n (x := 82) dX12_isKept_30 rfl ?_
    refine go_getR (x := 133) dX12_isKept_31 f12_166 sh82 (fun _ _ => rfl) (rf82_68 hR) ?_
    refine go_iload (x := x4) dX12_isKept_34 rfl ?_
    refine go_iconst (v := 4) dX12_isKept_36 rfl ?_
    refine go_iadd dX12_isKept_37 ?_
    refine go_iald' (v := (h.1 133 ((x4 + 4) : Int32).toNatClampNeg)) dX12_isKept_38 sh133 vc.1 rfl ?_
    have vc := vc.2
    refine go_iast dX12_isKept_39 sh133 vc.1 ?_
    have vc := vc.2
    show gg p l e s m args below meth c G d MX12_isKept Q 40 [some (.ref 82), some (.int x1), some (.int x2), some (.int x3), some (.int x4)] [] (sI h 133 x4.toNatClampNeg (h.1 133 ((x4 + 4) : Int32).toNatClampNeg))
    refine go_iinc (x := x4) dX12_isKept_40 rfl ?_
    show gg p l e s m args below meth c G d MX12_isKept Q 43 [some (.ref 82), some (.int x1), some (.int x2), some (.int x3), some (.int (x4 + 1))] [] (sI h 133 x4.toNatClampNeg (h.1 133 ((x4 + 4) : Int32).toNatClampNeg))
    refine go_goto 16 dX12_isKept_43 rfl ?_
    exact vc
