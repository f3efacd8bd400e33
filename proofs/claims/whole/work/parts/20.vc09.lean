set_option maxRecDepth 20000 in
theorem wX12_isWater_0 {p : Program} {l : Launch} {e : Env} {s : State} {m : MethodId} {args : Array Value} {below : List Frame} {meth : Method} {c : Code} {G : gG} {d : Nat} {Q : Option Value → gH → Prop} {h : gH} {lk sp : Nat} {cd : Option Nat} {a1 : Int32} (hR : h.2.2 = gRF lk sp cd) (hlk : lk = 30 ∨ lk = 67) (hsp : sp = 30 ∨ sp = 67)  (vc : gC l G d MX12_isCell [.ref 82, .int a1] h (rI fun v1 h1 => h1.2.2 = (h).2.2 ∧ ((v1 = 0 → Q (some (.int 0)) h1) ∧ (¬ v1 = 0 → gC l G d MX12_isLand [.ref 82, .int a1] h1 (rI fun v2 h2 => h2.2.2 = (h1).2.2 ∧ ((¬ v2 = 0 → Q (some (.int 0)) h2) ∧ (v2 = 0 → Q (some (.int 1)) h2))))))) : gg p l e s m args below meth c G (d + 1) MX12_isWater Q 0 [some (.ref 82), some (.int a1)] [] h := by
  refine go_aload_n (x := 82) dX12_isWater_0 rfl ?_
  refine go_iload_n (x := a1) dX12_isWater_1 rfl ?_
  refine gvI1 MX12_isCell dX12_isWater_2 lX12_489 kX12_isCell vX12_isCell sh82 (by decide) rfl (Nat.le_of_ble_eq_true rfl) vc ?_
  intro v1 h1 vc
  obtain ⟨hR1, vc⟩ := vc
  replace hR := hR1.trans hR
  refine go_if_eq 20 dX12_isWater_5 rfl (fun q => ?_) (fun q => ?_)
  · replace vc := vc.1 q
    refine go_iconst (v := 0) dX12_isWater_20 rfl ?_
    exact go_zret dX12_isWater_21 rfl (by decide) vc rfl (Nat.le_refl _) (Nat.le_refl _)
  · replace vc := vc.2 q
    refine go_aload_n (x := 82) dX12_isWater_8 rfl ?_
    refine go_iload_n (x := a1) dX12_isWater_9 rfl ?_
    refine gvI1 MX12_isLand dX12_isWater_10 lX12_492 kX12_isLand vX12_isLand sh82 (by decide) rfl (Nat.le_of_ble_eq_true rfl) vc ?_
    intro v2 h2 vc
    obtain ⟨hR2, vc⟩ := vc
    replace hR := hR2.trans hR
    refine go_if_ne 20 dX12_isWater_13 rfl (fun q => ?_) (fun q => ?_)
    · replace vc := vc.1 q
      refine go_iconst (v := 0) dX12_isWater_20 rfl ?_
      exact go_zret dX12_isWater_21 rfl (by decide) vc rfl (Nat.le_refl _) (Nat.le_refl _)
    · replace vc := vc.2 q
      refine go_iconst (v := 1) dX12_isWater_16 rfl ?_
      refine go_goto 21 dX12_isWater_17 rfl ?_
      exact go_zret dX12_isWater_21 rfl (by decide) vc rfl (Nat.le_refl _) (Nat.le_refl _)
set_option maxRecDepth 20000 in
theorem wX12_isWreck_0 {p : Program} {l : Launch} {e : Env} {s : State} {m : MethodId} {args : Array Value} {below : List Frame} {meth : Method} {c : Code} {G : gG} {d : Nat} {Q : Option Value → gH → Prop} {h : gH} {lk sp : Nat} {cd : Option Nat} {a1 : Int32} (hR : h.2.2 = gRF lk sp cd) (hlk : lk = 30 ∨ lk = 67) (hsp : sp = 30 ∨ sp = 67)  (vc : gC l G d MX12_kindAt [.ref 82, .int a1] h (rI fun v1 h1 => h1.2.2 = (h).2.2 ∧ ((¬ v1 = 3 → Q (some (.int 0)) h1) ∧ (v1 = 3 → Q (some (.int 1)) h1)))) : gg p l e s m args below meth c G (d + 1) MX12_isWreck Q 0 [some (.ref 82), some (.int a1)] [] h := by
  refine go_aload_n (x := 82) dX12_isWreck_0 rfl ?_
  refine go_iload_n (x := a1) dX12_isWreck_1 rfl ?_
  refine gvI1 MX12_kindAt dX12_isWreck_2 lX12_486 kX12_kindAt vX12_kindAt sh82 (by decide) rfl (Nat.le_of_ble_eq_true rfl) vc ?_
  intro v1 h1 vc
  obtain ⟨hR1, vc⟩ := vc
  replace hR := hR1.trans hR
  refine go_iconst (v := 3) dX12_isWreck_5 rfl ?_
  refine go_icmp_ne 13 dX12_isWreck_6 rfl (fun q => ?_) (fun q => ?_)
  · replace vc := vc.1 q
    refine go_iconst (v := 0) dX12_isWreck_13 rfl ?_
    exact go_zret dX12_isWreck_14 rfl (by decide) vc rfl (Nat.le_refl _) (Nat.le_refl _)
  · replace vc := vc.2 q
    refine go_iconst (v := 1) dX12_isWreck_9 rfl ?_
    refine go_goto 14 dX12_isWreck_10 rfl ?_
    exact go_zret dX12_isWreck_14 rfl (by decide) vc rfl (Nat.le_refl _) (Nat.le_refl _)
set_option maxRecDepth 20000 in
theorem wX12_depthOf_0 {p : Program} {l : Launch} {e : Env} {s : State} {m : MethodId} {args : Array Value} {below : List Frame} {meth : Method} {c : Code} {G : gG} {d : Nat} {Q : Option Value → gH → Prop} {h : gH} {lk sp : Nat} {cd : Option Nat} {a1 : Int32} (hR : h.2.2 = gRF lk sp cd) (hlk : lk = 30 ∨ lk = 67) (hsp : sp = 30 ∨ sp = 67)  (vc : gC l G d MX12_isWreck [.ref 82, .int a1] h (rI fun v1 h1 => h1.2.2 = (h).2.2 ∧ ((v1 = 0 → gC l G d MX12_kindAt [.ref 82, .int a1] h1 (rI fun v2 h2 => h2.2.2 = (h1).2.2 ∧ Q (some (.int v2)) h2)) ∧ (¬ v1 = 0 → Q (some (.int 2)) h1)))) : gg p l e s m args below meth c G (d + 1) MX12_depthOf Q 0 [some (.ref 82), some (.int a1)] [] h := by
  refine go_aload_n (x := 82) dX12_depthOf_0 rfl ?_
  refine go_iload_n (x := a1) dX12_depthOf_1 rfl ?_
  refine gvI1 MX12_isWreck dX12_depthOf_2 lX12_495 kX12_isWreck vX12_isWreck sh82 (by decide) rfl (Nat.le_of_ble_eq_true rfl) vc ?_
  intro v1 h1 vc
  obtain ⟨hR1, vc⟩ := vc
  replace hR := hR1.trans hR
  refine go_if_eq 12 dX12_depthOf_5 rfl (fun q => ?_) (fun q => ?_)
  · replace vc := vc.1 q
    refine go_aload_n (x := 82) dX12_depthOf_12 rfl ?_
    refine go_iload_n (x := a1) dX12_depthOf_13 rfl ?_
    refine gvI1 MX12_kindAt dX12_depthOf_14 lX12_486 kX12_kindAt vX12_kindAt sh82 (by decide) rfl (Nat.le_of_ble_eq_true rfl) vc ?_
    intro v2 h2 vc
    obtain ⟨hR2, vc⟩ := vc
    replace hR := hR2.trans hR
    exact go_iret dX12_depthOf_17 rfl vc rfl (Nat.le_refl _) (Nat.le_refl _)
  · replace vc := vc.2 q
    refine go_iconst (v := 2) dX12_depthOf_8 rfl ?_
    refine go_goto 17 dX12_depthOf_9 rfl ?_
    exact go_iret dX12_depthOf_17 rfl vc rfl (Nat.le_refl _) (Nat.le_refl _)
set_option maxRecDepth 20000 in
theorem wX12_size_0 {p : Program} {l : Launch} {e : Env} {s : State} {m : MethodId} {args : Array Value} {below : List Frame} {meth : Method} {c : Code} {G : gG} {d : Nat} {Q : Option Value → gH → Prop} {h : gH} {lk sp : Nat} {cd : Option Nat} {a1 : Int32} (hR : h.2.2 = gRF lk sp cd) (hlk : lk = 30 ∨ lk = 67) (hsp : sp = 30 ∨ sp = 67)  (vc : ((0 ≤ a1 → Q (some (.int a1)) h) ∧ (¬ 0 ≤ a1 → Q (some (.int (-a1))) h))) : gg p l e s m args below meth c G d MX12_size Q 0 [some (.int a1)] [] h := by
  refine go_iload_n (x := a1) dX12_size_0 rfl ?_
  refine go_if_ge 9 dX12_size_1 rfl (fun q => ?_) (fun q => ?_)
  · replace vc := vc.1 q
    refine go_iload_n (x := a1) dX12_size_9 rfl ?_
    exact go_iret dX12_size_10 rfl vc rfl (Nat.le_refl _) (Nat.le_refl _)
  · replace vc := vc.2 q
    refine go_iload_n (x := a1) dX12_size_4 rfl ?_
    refine go_ineg dX12_size_5 ?_
    refine go_goto 10 dX12_size_6 rfl ?_
    exact go_iret dX12_size_10 rfl vc rfl (Nat.le_refl _) (Nat.le_refl _)
set_option maxRecDepth 20000 in
theorem wX12_offOf_0 {p : Program} {l : Launch} {e : Env} {s : State} {m : MethodId} {args : Array Value} {below : List Frame} {meth : Method} {c : Code} {G : gG} {d : Nat} {Q : Option Value → gH → Prop} {h : gH} {lk sp : Nat} {cd : Option Nat} {a1 : Int32} {a2 : Int32} (hR : h.2.2 = gRF lk sp cd) (hlk : lk = 30 ∨ lk = 67) (hsp : sp = 30 ∨ sp = 67)  (vc : gC l G d MX12_columns [.ref 82] h (rI fun v1 h1 => h1.2.2 = (h).2.2 ∧ (¬ v1 = 0 ∧ gC l G d MX12_columns [.ref 82] h1 (rI fun v2 h2 => h2.2.2 = (h1).2.2 ∧ (¬ v2 = 0 ∧ gC l G d MX12_size [.int ((a1 - a1 / v1 * v1) - (a2 - a2 / v2 * v2))] h2 (rI fun v3 h3 => h3.2.2 = (h2).2.2 ∧ gC l G d MX12_columns [.ref 82] h3 (rI fun v4 h4 => h4.2.2 = (h3).2.2 ∧ (¬ v4 = 0 ∧ gC l G d MX12_columns [.ref 82] h4 (rI fun v5 h5 => h5.2.2 = (h4).2.2 ∧ (¬ v5 = 0 ∧ gC l G d MX12_size [.int ((a1 / v4) - (a2 / v5))] h5 (rI fun v6 h6 => h6.2.2 = (h5).2.2 ∧ Q (some (.int (v3 + v6))) h6))))))))))) : gg p l e s m args below meth c G (d + 1) MX12_offOf Q 0 [some (.ref 82), some (.int a1), some (.int a2)] [] h := by
  refine go_iload_n (x := a1) dX12_offOf_0 rfl ?_
  refine go_aload_n (x := 82) dX12_offOf_1 rfl ?_
  refine gvI0 MX12_columns dX12_offOf_2 lX12_477 kX12_columns vX12_columns sh82 (by decide) rfl (Nat.le_of_ble_eq_true rfl) vc ?_
  intro v1 h1 vc
  obtain ⟨hR1, vc⟩ := vc
  replace hR := hR1.trans hR
  refine go_irem dX12_offOf_5 vc.1 ?_
  have vc := vc.2
  refine go_iload_n (x := a2) dX12_offOf_6 rfl ?_
  refine go_aload_n (x := 82) dX12_offOf_7 rfl ?_
  refine gvI0 MX12_columns dX12_offOf_8 lX12_477 kX12_columns vX12_columns sh82 (by decide) rfl (Nat.le_of_ble_eq_true rfl) vc ?_
  intro v2 h2 vc
  obtain ⟨hR2, vc⟩ := vc
  replace hR := hR2.trans hR
  refine go_irem dX12_offOf_11 vc.1 ?_
  have vc := vc.2
  refine go_isub dX12_offOf_12 ?_
  refine gsI1 MX12_size dX12_offOf_13 lX12_498 kX12_size sX12_size (Nat.le_of_ble_eq_true rfl) vc ?_
  intro v3 h3 vc
  obtain ⟨hR3, vc⟩ := vc
  replace hR := hR3.trans hR
  refine go_iload_n (x := a1) dX12_offOf_16 rfl ?_
  refine go_aload_n (x := 82) dX12_offOf_17 rfl ?_
  refine gvI0 MX12_columns dX12_offOf_18 lX12_477 kX12_columns vX12_columns sh82 (by decide) rfl (Nat.le_of_ble_eq_true rfl) vc ?_
  intro v4 h4 vc
  obtain ⟨hR4, vc⟩ := vc
  replace hR := hR4.trans hR
  refine go_idiv dX12_offOf_21 vc.1 ?_
  have vc := vc.2
  refine go_iload_n (x := a2) dX12_offOf_22 rfl ?_
  refine go_aload_n (x := 82) dX12_offOf_23 rfl ?_
  refine gvI0 MX12_columns dX12_offOf_24 lX12_477 kX12_columns vX12_columns sh82 (by decide) rfl (Nat.le_of_ble_eq_true rfl) vc ?_
  intro v5 h5 vc
  obtain ⟨hR5, vc⟩ := vc
  replace hR := hR5.trans hR
  refine go_idiv dX12_offOf_27 vc.1 ?_
  have vc := vc.2
  refine go_isub dX12_offOf_28 ?_
  refine gsI1 MX12_size dX12_offOf_29 lX12_498 kX12_size sX12_size (Nat.le_of_ble_eq_true rfl) vc ?_
  intro v6 h6 vc
  obtain ⟨hR6, vc⟩ := vc
  replace hR := hR6.trans hR
  refine go_iadd dX12_offOf_32 ?_
  exact go_iret dX12_offOf_33 rfl vc rfl (Nat.le_refl _) (Nat.le_refl _)
set_option maxRecDepth 20000 in
theorem wX12_homeOf_0 {p : Program} {l : Launch} {e : Env} {s : State} {m : MethodId} {args : Array Value} {below : List Frame} {meth : Method} {c : Code} {G : gG} {d : Nat} {Q : Option Value → gH → Prop} {h : gH} {lk sp : Nat} {cd : Option Nat} {a1 : Int32} (hR : h.2.2 = gRF lk sp cd) (hlk : lk = 30 ∨ lk = 67) (hsp : sp = 30 ∨ sp = 67)  (vc : gg p l e s m args below meth c G (d + 1) MX12_homeOf Q 5 [some (.ref 82), some (.int a1), some (.int 99), some (.int 0)] [] h) : gg p l e s m args below meth c G (d + 1) MX12_homeOf Q 0 [some (.ref 82), some (.int a1), none, none] [] h := by
  refine go_bipush (v := 99) dX12_homeOf_0 rfl ?_
  refine go_istore_n dX12_homeOf_2 (Nat.le_of_ble_eq_true rfl) ?_
  show gg p l e s m args below meth c G (d + 1) MX12_homeOf Q 3 [some (.ref 82), some (.int a1), some (.int 99), none] [] h
  refine go_iconst (v := 0) dX12_homeOf_3 rfl ?_
  refine go_istore_n dX12_homeOf_4 (Nat.le_of_ble_eq_true rfl) ?_
  show gg p l e s m args below meth c G (d + 1) MX12_homeOf Q 5 [some (.ref 82), some (.int a1), some (.int 99), some (.int 0)] [] h
  exact vc
set_option maxRecDepth 20000 in
theorem wX12_homeOf_5 {p : Program} {l : Launch} {e : Env} {s : State} {m : MethodId} {args : Array Value} {below : List Frame} {meth : Method} {c : Code} {G : gG} {d : Nat} {Q : Option Value → gH → Prop} {h : gH} {lk sp : Nat} {cd : Option Nat} {x1 : Int32} {x2 : Int32} {x3 : Int32} (hR : h.2.2 = gRF lk sp cd) (hlk : lk = 30 ∨ lk = 67) (hsp : sp = 30 ∨ sp = 67)  (vc : gC l G d MX12_cellMany [.ref 82] h (rI fun v1 h1 => h1.2.2 = (h).2.2 ∧ ((v1 ≤ x3 → Q (some (.int x2)) h1) ∧ (¬ v1 ≤ x3 → gC l G d MX12_kindAt [.ref 82, .int x3] h1 (rI fun v2 h2 => h2.2.2 = (h1).2.2 ∧ ((¬ v2 = 0 → gg p l e s m args below meth c G (d + 1) MX12_homeOf Q 5 [some (.ref 82), some (.int x1), some (.int x2), some (.int (x3 + 1))] [] h2) ∧ (v2 = 0 → gC l G d MX12_offOf [.ref 82, .int x3, .int x1] h2 (rI fun v3 h3 => h3.2.2 = (h2).2.2 ∧ ((x2 ≤ v3 → gg p l e s m args below meth c G (d + 1) MX12_homeOf Q 5 [some (.ref 82), some (.int x1), some (.int x2), some (.int (x3 + 1))] [] h3) ∧ (¬ x2 ≤ v3 → gC l G d MX12_offOf [.ref 82, .int x3, .int x1] h3 (rI fun v4 h4 => h4.2.2 = (h3).2.2 ∧ gg p l e s m args below meth c G (d + 1) MX12_homeOf Q 5 [some (.ref 82), some (.int x1), some (.int v4), some (.int (x3 + 1))] [] h4))))))))))) : gg p l e s m args below meth c G (d + 1) MX12_homeOf Q 5 [some (.ref 82), some (.int x1), some (.int x2), some (.int x3)] [] h := by
  refine go_iload_n (x := x3) dX12_homeOf_5 rfl ?_
  refine go_aload_n (x := 82) dX12_homeOf_6 rfl ?_
  refine gvI0 MX12_cellMany dX12_homeOf_7 lX12_480 kX12_cellMany vX12_cellMany sh82 (by decide) rfl (Nat.le_of_ble_eq_true rfl) vc ?_
  intro v1 h1 vc
  obtain ⟨hR1, vc⟩ := vc
  replace hR := hR1.trans hR
  refine go_icmp_ge 44 dX12_homeOf_10 rfl (fun q => ?_) (fun q => ?_)
  · replace vc := vc.1 q
    refine go_iload_n (x := x2) dX12_homeOf_44 rfl ?_
    exact go_iret dX12_homeOf_45 rfl vc rfl (Nat.le_refl _) (Nat.le_refl _)
  · replace vc := vc.2 q
    refine go_aload_n (x := 82) dX12_homeOf_13 rfl ?_
    refine go_iload_n (x := x3) dX12_homeOf_14 rfl ?_
    refine gvI1 MX12_kindAt dX12_homeOf_15 lX12_486 kX12_kindAt vX12_kindAt sh82 (by decide) rfl (Nat.le_of_ble_eq_true rfl) vc ?_
    intro v2 h2 vc
    obtain ⟨hR2, vc⟩ := vc
    replace hR := hR2.trans hR
    refine go_if_ne 38 dX12_homeOf_18 rfl (fun q => ?_) (fun q => ?_)
    · replace vc := vc.1 q
      refine go_iinc (x := x3) dX12_homeOf_38 rfl ?_
      show gg p l e s m args below meth c G (d + 1) MX12_homeOf Q 41 [some (.ref 82), some (.int x1), some (.int x2), some (.int (x3 + 1))] [] h2
      refine go_goto 5 dX12_homeOf_41 rfl ?_
      exact vc
    · replace vc := vc.2 q
      refine go_aload_n (x := 82) dX12_homeOf_21 rfl ?_
      refine go_iload_n (x := x3) dX12_homeOf_22 rfl ?_
      refine go_iload_n (x := x1) dX12_homeOf_23 rfl ?_
      refine gvI2 MX12_offOf dX12_homeOf_24 lX12_501 kX12_offOf vX12_offOf sh82 (by decide) rfl (Nat.le_of_ble_eq_true rfl) vc ?_
      intro v3 h3 vc
      obtain ⟨hR3, vc⟩ := vc
      replace hR := hR3.trans hR
      refine go_iload_n (x := x2) dX12_homeOf_27 rfl ?_
      refine go_icmp_ge 38 dX12_homeOf_28 rfl (fun q => ?_) (fun q => ?_)
      · replace vc := vc.1 q
        refine go_iinc (x := x3) dX12_homeOf_38 rfl ?_
        show gg p l e s m args below meth c G (d + 1) MX12_homeOf Q 41 [some (.ref 82), some (.int x1), some (.int x2), some (.int (x3 + 1))] [] h3
        refine go_goto 5 dX12_homeOf_41 rfl ?_
        exact vc
      · replace vc := vc.2 q
        refine go_aload_n (x := 82) dX12_homeOf_31 rfl ?_
        refine go_iload_n (x := x3) dX12_homeOf_32 rfl ?_
        refine go_iload_n (x := x1) dX12_homeOf_33 rfl ?_
        refine gvI2 MX12_offOf dX12_homeOf_34 lX12_501 kX12_offOf vX12_offOf sh82 (by decide) rfl (Nat.le_of_ble_eq_true rfl) vc ?_
        intro v4 h4 vc
        obtain ⟨hR4, vc⟩ := vc
        replace hR := hR4.trans hR
        refine go_istore_n dX12_homeOf_37 (Nat.le_of_ble_eq_true rfl) ?_
        show gg p l e s m args below meth c G (d + 1) MX12_homeOf Q 38 [some (.ref 82), some (.int x1), some (.int v4), some (.int x3)] [] h4
        refine go_iinc (x := x3) dX12_homeOf_38 rfl ?_
        show gg p l e s m args below meth c G (d + 1) MX12_homeOf Q 41 [some (.ref 82), some (.int x1), some (.int v4), some (.int (x3 + 1))] [] h4
        refine go_goto 5 dX12_homeOf_41 rfl ?_
        exact vc
set_option maxRecDepth 20000 in
theorem wX12_skyIn_0 {p : Program} {l : Launch} {e : Env} {s : State} {m : MethodId} {args : Array Value} {below : List Frame} {meth : Method} {c : Code} {G : gG} {d : Nat} {Q : Option Value → gH → Prop} {h : gH} {lk sp : Nat} {cd : Option Nat} {a1 : Int32} (hR : h.2.2 = gRF lk sp cd) (hlk : lk = 30 ∨ lk = 67) (hsp : sp = 30 ∨ sp = 67)  (vc : gg p l e s m args below meth c G d MX12_skyIn Q 7 [some (.ref 82), some (.int a1), some (.int (-1)), some (.int 0), some (.int 0)] [] h) : gg p l e s m args below meth c G d MX12_skyIn Q 0 [some (.ref 82), some (.int a1), none, none, none] [] h := by
  refine go_iconst (v := (-1)) dX12_skyIn_0 rfl ?_
  refine go_istore_n dX12_skyIn_1 (Nat.le_of_ble_eq_true rfl) ?_
  show gg p l e s m args below meth c G d MX12_skyIn Q 2 [some (.ref 82), some (.int a1), some (.int (-1)), none, none] [] h
  refine go_iconst (v := 0) dX12_skyIn_2 rfl ?_
  refine go_istore_n dX12_skyIn_3 (Nat.le_of_ble_eq_true rfl) ?_
  show gg p l e s m args below meth c G d MX12_skyIn Q 4 [some (.ref 82), some (.int a1), some (.int (-1)), some (.int 0), none] [] h
  refine go_iconst (v := 0) dX12_skyIn_4 rfl ?_
  refine go_istore dX12_skyIn_5 (Nat.le_of_ble_eq_true rfl) ?_
  show gg p l e s m args below meth c G d MX12_skyIn Q 7 [some (.ref 82), some (.int a1), some (.int (-1)), some (.int 0), some (.int 0)] [] h
  exact vc
set_option maxRecDepth 20000 in
theorem wX12_skyIn_7 {p : Program} {l : Launch} {e : Env} {s : State} {m : MethodId} {args : Array Value} {below : List Frame} {meth : Method} {c : Code} {G : gG} {d : Nat} {Q : Option Value → gH → Prop} {h : gH} {lk sp : Nat} {cd : Option Nat} {x1 : Int32} {x2 : Int32} {x3 : Int32} {x4 : Int32} (hR : h.2.2 = gRF lk sp cd) (hlk : lk = 30 ∨ lk = 67) (hsp : sp = 30 ∨ sp = 67)  (vc : (((h.1 119 9) ≤ x4 → Q (some (.int x3)) h) ∧ (¬ (h.1 119 9) ≤ x4 → (vp_in ((20 + (2 * x4))) 40 ∧ ((x1 < (h.1 125 ((20 + (2 * x4)) : Int32).toNatClampNeg) → gg p l e s m args below meth c G d MX12_skyIn Q 7 [some (.ref 82), some (.int x1), some (.int x2), some (.int x3), some (.int (x4 + 1))] [] h) ∧ (¬ x1 < (h.1 125 ((20 + (2 * x4)) : Int32).toNatClampNeg) → (vp_in ((20 + (2 * x4))) 40 ∧ ((x2 < (h.1 125 ((20 + (2 * x4)) : Int32).toNatClampNeg) → (vp_in ((20 + (2 * x4))) 40 ∧ (vp_in ((21 + (2 * x4))) 40 ∧ gg p l e s m args below meth c G d MX12_skyIn Q 7 [some (.ref 82), some (.int x1), some (.int (h.1 125 ((20 + (2 * x4)) : Int32).toNatClampNeg)), some (.int (h.1 125 ((21 + (2 * x4)) : Int32).toNatClampNeg)), some (.int (x4 + 1))] [] h))) ∧ (¬ x2 < (h.1 125 ((20 + (2 * x4)) : Int32).toNatClampNeg) → gg p l e s m args below meth c G d MX12_skyIn Q 7 [some (.ref 82), some (.int x1), some (.int x2), some (.int x3), some (.int (x4 + 1))] [] h))))))))) : gg p l e s m args below meth c G d MX12_skyIn Q 7 [some (.ref 82), some (.int x1), some (.int x2), some (.int x3), some (.int x4)] [] h := by
  refine go_iload (x := x4) dX12_skyIn_7 rfl ?_
  refine go_aload_n (x := 82) dX12_skyIn_9 rfl ?_
  refine go_getR (x := 119) dX12_skyIn_10 f12_123 sh82 (fun _ _ => rfl) (rf82_46 hR) ?_
  refine go_bipush (v := 9) dX12_skyIn_13 rfl ?_
  refine go_iald' (v := (h.1 119 9)) dX12_skyIn_15 sh119 (by unfold vp_in; decide) rfl ?_
  refine go_icmp_ge 86 dX12_skyIn_16 rfl (fun q => ?_) (fun q => ?_)
  · replace vc := vc.1 q
    refine go_iload_n (x := x3) dX12_skyIn_86 rfl ?_
    exact go_iret dX12_skyIn_87 rfl vc rfl (Nat.le_refl _) (Nat.le_refl _)
  · replace vc := vc.2 q
    refine go_aload_n (x := 82) dX12_skyIn_19 rfl ?_
    refine go_getR (x := 125) dX12_skyIn_20 f12_142 sh82 (fun _ _ => rfl) (rf82_52 hR) ?_
    refine go_bipush (v := 20) dX12_skyIn_23 rfl ?_
    refine go_iconst (v := 2) dX12_skyIn_25 rfl ?_
    refine go_iload (x := x4) dX12_skyIn_26 rfl ?_
    refine go_imul dX12_skyIn_28 ?_
    refine go_iadd dX12_skyIn_29 ?_
    refine go_iald' (v := (h.1 125 ((20 + (2 * x4)) : Int32).toNatClampNeg)) dX12_skyIn_30 sh125 vc.1 rfl ?_
    have vc := vc.2
    refine go_iload_n (x := x1) dX12_skyIn_31 rfl ?_
    refine go_icmp_gt 80 dX12_skyIn_32 rfl (fun q => ?_) (fun q => ?_)
    · replace vc := vc.1 q
      refine go_iinc (x := x4) dX12_skyIn_80 rfl ?_
      show gg p l e s m args below meth c G d MX12_skyIn Q 83 [some (.ref 82), some (.int x1), some (.int x2), some (.int x3), some (.int (x4 + 1))] [] h
      refine go_goto 7 dX12_skyIn_83 rfl ?_
      exact vc
    · replace vc := vc.2 q
      refine go_aload_n (x := 82) dX12_skyIn_35 rfl ?_
      refine go_getR (x := 125) dX12_skyIn_36 f12_142 sh82 (fun _ _ => rfl) (rf82_52 hR) ?_
      refine go_bipush (v := 20) dX12_skyIn_39 rfl ?_
      refine go_iconst (v := 2) dX12_skyIn_41 rfl ?_
      refine go_iload (x := x4) dX12_skyIn_42 rfl ?_
      refine go_imul dX12_skyIn_44 ?_
      refine go_iadd dX12_skyIn_45 ?_
      refine go_iald' (v := (h.1 125 ((20 + (2 * x4)) : Int32).toNatClampNeg)) dX12_skyIn_46 sh125 vc.1 rfl ?_
      have vc := vc.2
      refine go_iload_n (x := x2) dX12_skyIn_47 rfl ?_
      refine go_icmp_gt 54 dX12_skyIn_48 rfl (fun q => ?_) (fun q => ?_)
      · replace vc := vc.1 q
        refine go_aload_n (x := 82) dX12_skyIn_54 rfl ?_
        refine go_getR (x := 125) dX12_skyIn_55 f12_142 sh82 (fun _ _ => rfl) (rf82_52 hR) ?_
        refine go_bipush (v := 20) dX12_skyIn_58 rfl ?_
        refine go_iconst (v := 2) dX12_skyIn_60 rfl ?_
        refine go_iload (x := x4) dX12_skyIn_61 rfl ?_
        refine go_imul dX12_skyIn_63 ?_
        refine go_iadd dX12_skyIn_64 ?_
        refine go_iald' (v := (h.1 125 ((20 + (2 * x4)) : Int32).toNatClampNeg)) dX12_skyIn_65 sh125 vc.1 rfl ?_
        have vc := vc.2
        refine go_istore_n dX12_skyIn_66 (Nat.le_of_ble_eq_true rfl) ?_
        show gg p l e s m args below meth c G d MX12_skyIn Q 67 [some (.ref 82), some (.int x1), some (.int (h.1 125 ((20 + (2 * x4)) : Int32).toNatClampNeg)), some (.int x3), some (.int x4)] [] h
        refine go_aload_n (x := 82) dX12_skyIn_67 rfl ?_
        refine go_getR (x := 125) dX12_skyIn_68 f12_142 sh82 (fun _ _ => rfl) (rf82_52 hR) ?_
        refine go_bipush (v := 21) dX12_skyIn_71 rfl ?_
        refine go_iconst (v := 2) dX12_skyIn_73 rfl ?_
        refine go_iload (x := x4) dX12_skyIn_74 rfl ?_
        refine go_imul dX12_skyIn_76 ?_
        refine go_iadd dX12_skyIn_77 ?_
        refine go_iald' (v := (h.1 125 ((21 + (2 * x4)) : Int32).toNatClampNeg)) dX12_skyIn_78 sh125 vc.1 rfl ?_
        have vc := vc.2
        refine go_istore_n dX12_skyIn_79 (Nat.le_of_ble_eq_true rfl) ?_
        show gg p l e s m args below meth c G d MX12_skyIn Q 80 [some (.ref 82), some (.int x1), some (.int (h.1 125 ((20 + (2 * x4)) : Int32).toNatClampNeg)), some (.int (h.1 125 ((21 + (2 * x4)) : Int32).toNatClampNeg)), some (.int x4)] [] h
        refine go_iinc (x := x4) dX12_skyIn_80 rfl ?_
        show gg p l e s m args below meth c G d MX12_skyIn Q 83 [some (.ref 82), some (.int x1), some (.int (h.1 125 ((20 + (2 * x4)) : Int32).toNatClampNeg)), some (.int (h.1 125 ((21 + (2 * x4)) : Int32).toNatClampNeg)), some (.int (x4 + 1))] [] h
        refine go_goto 7 dX12_skyIn_83 rfl ?_
        exact vc
      · replace vc := vc.2 q
        refine go_goto 80 dX12_skyIn_51 rfl ?_
        refine go_iinc (x := x4) dX12_skyIn_80 rfl ?_
        show gg p l e s m args below meth c G d MX12_skyIn Q 83 [some (.ref 82), some (.int x1), some (.int x2), some (.int x3), some (.int (x4 + 1))] [] h
        refine go_goto 7 dX12_skyIn_83 rfl ?_
        exact vc
set_option maxRecDepth 20000 in
theorem wX12_cellOf_0 {p : Program} {l : Launch} {e : Env} {s : State} {m : MethodId} {args : Array Value} {below : List Frame} {meth : Method} {c : Code} {G : gG} {d : Nat} {Q : Option Value → gH → Prop} {h : gH} {lk sp : Nat} {cd : Option Nat} {a1 : Int32} (hR : h.2.2 = gRF lk sp cd) (hlk : lk = 30 ∨ lk = 67) (hsp : sp = 30 ∨ sp = 67)  (vc : (vp_in ((2 + (4 * a1))) 187 ∧ Q (some (.int (h.1 133 ((2 + (4 * a1)) : Int32).toNatClampNeg))) h)) : gg p l e s m args below meth c G d MX12_cellOf Q 0 [some (.ref 82), some (.int a1)] [] h := by
  refine go_aload_n (x := 82) dX12_cellOf_0 rfl ?_
  refine go_getR (x := 133) dX12_cellOf_1 f12_166 sh82 (fun _ _ => rfl) (rf82_68 hR) ?_
  refine go_iconst (v := 2) dX12_cellOf_4 rfl ?_
  refine go_iconst (v := 4) dX12_cellOf_5 rfl ?_
  refine go_iload_n (x := a1) dX12_cellOf_6 rfl ?_
  refine go_imul dX12_cellOf_7 ?_
  refine go_iadd dX12_cellOf_8 ?_
  refine go_iald' (v := (h.1 133 ((2 + (4 * a1)) : Int32).toNatClampNeg)) dX12_cellOf_9 sh133 vc.1 rfl ?_
  have vc := vc.2
  exact go_iret dX12_cellOf_10 rfl vc rfl (Nat.le_refl _) (Nat.le_refl _)
set_option maxRecDepth 20000 in
theorem wX12_trustOf_0 {p : Program} {l : Launch} {e : Env} {s : State} {m : MethodId} {args : Array Value} {below : List Frame} {meth : Method} {c : Code} {G : gG} {d : Nat} {Q : Option Value → gH → Prop} {h : gH} {lk sp : Nat} {cd : Option Nat} {a1 : Int32} (hR : h.2.2 = gRF lk sp cd) (hlk : lk = 30 ∨ lk = 67) (hsp : sp = 30 ∨ sp = 67)  (vc : (vp_in (((2 + (4 * a1)) + 1)) 187 ∧ Q (some (.int (h.1 133 (((2 + (4 * a1)) + 1) : Int32).toNatClampNeg))) h)) : gg p l e s m args below meth c G d MX12_trustOf Q 0 [some (.ref 82), some (.int a1)] [] h := by
  refine go_aload_n (x := 82) dX12_trustOf_0 rfl ?_
  refine go_getR (x := 133) dX12_trustOf_1 f12_166 sh82 (fun _ _ => rfl) (rf82_68 hR) ?_
  refine go_iconst (v := 2) dX12_trustOf_4 rfl ?_
  refine go_iconst (v := 4) dX12_trustOf_5 rfl ?_
  refine go_iload_n (x := a1) dX12_trustOf_6 rfl ?_
  refine go_imul dX12_trustOf_7 ?_
  refine go_iadd dX12_trustOf_8 ?_
  refine go_iconst (v := 1) dX12_trustOf_9 rfl ?_
  refine go_iadd dX12_trustOf_10 ?_
  refine go_iald' (v := (h.1 133 (((2 + (4 * a1)) + 1) : Int32).toNatClampNeg)) dX12_trustOf_11 sh133 vc.1 rfl ?_
  have vc := vc.2
  exact go_iret dX12_trustOf_12 rfl vc rfl (Nat.le_refl _) (Nat.le_refl _)
set_option maxRecDepth 20000 in
theorem wX12_balksOf_0 {p : Program} {l : Launch} {e : Env} {s : State} {m : MethodId} {args : Array Value} {below : List Frame} {meth : Method} {c : Code} {G : gG} {d : Nat} {Q : Option Value → gH → Prop} {h : gH} {lk sp : Nat} {cd : Option Nat} {a1 : Int32} (hR : h.2.2 = gRF lk sp cd) (hlk : lk = 30 ∨ lk = 67) (hsp : sp = 30 ∨ sp = 67)  (vc : (vp_in (((2 + (4 * a1)) + 2)) 187 ∧ Q (some (.int (h.1 133 (((2 + (4 * a1)) + 2) : Int32).toNatClampNeg))) h)) : gg p l e s m args below meth c G d MX12_balksOf Q 0 [some (.ref 82), some (.int a1)] [] h := by
  refine go_aload_n (x := 82) dX12_balksOf_0 rfl ?_
  refine go_getR (x := 133) dX12_balksOf_1 f12_166 sh82 (fun _ _ => rfl) (rf82_68 hR) ?_
  refine go_iconst (v := 2) dX12_balksOf_4 rfl ?_
  refine go_iconst (v := 4) dX12_balksOf_5 rfl ?_
  refine go_iload_n (x := a1) dX12_balksOf_6 rfl ?_
  refine go_imul dX12_balksOf_7 ?_
  refine go_iadd dX12_balksOf_8 ?_
  refine go_iconst (v := 2) dX12_balksOf_9 rfl ?_
  refine go_iadd dX12_balksOf_10 ?_
  refine go_iald' (v := (h.1 133 (((2 + (4 * a1)) + 2) : Int32).toNatClampNeg)) dX12_balksOf_11 sh133 vc.1 rfl ?_
  have vc := vc.2
  exact go_iret dX12_balksOf_12 rfl vc rfl (Nat.le_refl _) (Nat.le_refl _)
set_option maxRecDepth 20000 in
theorem wX12_handOf_0 {p : Program} {l : Launch} {e : Env} {s : State} {m : MethodId} {args : Array Value} {below : List Frame} {meth : Method} {c : Code} {G : gG} {d : Nat} {Q : Option Value → gH → Prop} {h : gH} {lk sp : Nat} {cd : Option Nat} {a1 : Int32} (hR : h.2.2 = gRF lk sp cd) (hlk : lk = 30 ∨ lk = 67) (hsp : sp = 30 ∨ sp = 67)  (vc : (vp_in (((2 + (4 * a1)) + 3)) 187 ∧ Q (some (.int (h.1 133 (((2 + (4 * a1)) + 3) : Int32).toNatClampNeg))) h)) : gg p l e s m args below meth c G d MX12_handOf Q 0 [some (.ref 82), some (.int a1)] [] h := by
  refine go_aload_n (x := 82) dX12_handOf_0 rfl ?_
  refine go_getR (x := 133) dX12_handOf_1 f12_166 sh82 (fun _ _ => rfl) (rf82_68 hR) ?_
  refine go_iconst (v := 2) dX12_handOf_4 rfl ?_
  refine go_iconst (v := 4) dX12_handOf_5 rfl ?_
  refine go_iload_n (x := a1) dX12_handOf_6 rfl ?_
  refine go_imul dX12_handOf_7 ?_
  refine go_iadd dX12_handOf_8 ?_
  refine go_iconst (v := 3) dX12_handOf_9 rfl ?_
  refine go_iadd dX12_handOf_10 ?_
  refine go_iald' (v := (h.1 133 (((2 + (4 * a1)) + 3) : Int32).toNatClampNeg)) dX12_handOf_11 sh133 vc.1 rfl ?_
  have vc := vc.2
  exact go_iret dX12_handOf_12 rfl vc rfl (Nat.le_refl _) (Nat.le_refl _)
set_option maxRecDepth 20000 in
theorem wX12_boatsIn_0 {p : Program} {l : Launch} {e : Env} {s : State} {m : MethodId} {args : Array Value} {below : List Frame} {meth : Method} {c : Code} {G : gG} {d : Nat} {Q : Option Value → gH → Prop} {h : gH} {lk sp : Nat} {cd : Option Nat} {a1 : Int32} (hR : h.2.2 = gRF lk sp cd) (hlk : lk = 30 ∨ lk = 67) (hsp : sp = 30 ∨ sp = 67)  (vc : gg p l e s m args below meth c G (d + 1) MX12_boatsIn Q 4 [some (.ref 82), some (.int a1), some (.int 0), some (.int 0)] [] h) : gg p l e s m args below meth c G (d + 1) MX12_boatsIn Q 0 [some (.ref 82), some (.int a1), none, none] [] h := by
  refine go_iconst (v := 0) dX12_boatsIn_0 rfl ?_
  refine go_istore_n dX12_boatsIn_1 (Nat.le_of_ble_eq_true rfl) ?_
  show gg p l e s m args below meth c G (d + 1) MX12_boatsIn Q 2 [some (.ref 82), some (.int a1), some (.int 0), none] [] h
  refine go_iconst (v := 0) dX12_boatsIn_2 rfl ?_
  refine go_istore_n dX12_boatsIn_3 (Nat.le_of_ble_eq_true rfl) ?_
  show gg p l e s m args below meth c G (d + 1) MX12_boatsIn Q 4 [some (.ref 82), some (.int a1), some (.int 0), some (.int 0)] [] h
  exact vc
set_option maxRecDepth 20000 in
theorem wX12_boatsIn_4 {p : Program} {l : Launch} {e : Env} {s : State} {m : MethodId} {args : Array Value} {below : List Frame} {meth : Method} {c : Code} {G : gG} {d : Nat} {Q : Option Value → gH → Prop} {h : gH} {lk sp : Nat} {cd : Option Nat} {x1 : Int32} {x2 : Int32} {x3 : Int32} (hR : h.2.2 = gRF lk sp cd) (hlk : lk = 30 ∨ lk = 67) (hsp : sp = 30 ∨ sp = 67)  (vc : gC l G d MX12_boatMany [.ref 82] h (rI fun v1 h1 => h1.2.2 = (h).2.2 ∧ ((v1 ≤ x3 → Q (some (.int x2)) h1) ∧ (¬ v1 ≤ x3 → gC l G d MX12_cellOf [.ref 82, .int x3] h1 (rI fun v2 h2 => h2.2.2 = (h1).2.2 ∧ ((¬ v2 = x1 → gg p l e s m args below meth c G (d + 1) MX12_boatsIn Q 4 [some (.ref 82), some (.int x1), some (.int x2), some (.int (x3 + 1))] [] h2) ∧ (v2 = x1 → gg p l e s m args below meth c G (d + 1) MX12_boatsIn Q 4 [some (.ref 82), some (.int x1), some (.int (x2 ||| (1 <<< (x3 &&& 31)))), some (.int (x3 + 1))] [] h2))))))) : gg p l e s m args below meth c G (d + 1) MX12_boatsIn Q 4 [some (.ref 82), some (.int x1), some (.int x2), some (.int x3)] [] h := by
  refine go_iload_n (x := x3) dX12_boatsIn_4 rfl ?_
  refine go_aload_n (x := 82) dX12_boatsIn_5 rfl ?_
  refine gvI0 MX12_boatMany dX12_boatsIn_6 lX12_483 kX12_boatMany vX12_boatMany sh82 (by decide) rfl (Nat.le_of_ble_eq_true rfl) vc ?_
  intro v1 h1 vc
  obtain ⟨hR1, vc⟩ := vc
  replace hR := hR1.trans hR
  refine go_icmp_ge 33 dX12_boatsIn_9 rfl (fun q => ?_) (fun q => ?_)
  · replace vc := vc.1 q
    refine go_iload_n (x := x2) dX12_boatsIn_33 rfl ?_
    exact go_iret dX12_boatsIn_34 rfl vc rfl (Nat.le_refl _) (Nat.le_refl _)
  · replace vc := vc.2 q
    refine go_aload_n (x := 82) dX12_boatsIn_12 rfl ?_
    refine go_iload_n (x := x3) dX12_boatsIn_13 rfl ?_
    refine gvI1 MX12_cellOf dX12_boatsIn_14 lX12_504 kX12_cellOf vX12_cellOf sh82 (by decide) rfl (Nat.le_of_ble_eq_true rfl) vc ?_
    intro v2 h2 vc
    obtain ⟨hR2, vc⟩ := vc
    replace hR := hR2.trans hR
    refine go_iload_n (x := x1) dX12_boatsIn_17 rfl ?_
    refine go_icmp_ne 27 dX12_boatsIn_18 rfl (fun q => ?_) (fun q => ?_)
    · replace vc := vc.1 q
      refine go_iinc (x := x3) dX12_boatsIn_27 rfl ?_
      show gg p l e s m args below meth c G (d + 1) MX12_boatsIn Q 30 [some (.ref 82), some (.int x1), some (.int x2), some (.int (x3 + 1))] [] h2
      refine go_goto 4 dX12_boatsIn_30 rfl ?_
      exact vc
    · replace vc := vc.2 q
      refine go_iload_n (x := x2) dX12_boatsIn_21 rfl ?_
      refine go_iconst (v := 1) dX12_boatsIn_22 rfl ?_
      refine go_iload_n (x := x3) dX12_boatsIn_23 rfl ?_
      refine go_ishl dX12_boatsIn_24 ?_
      refine go_ior dX12_boatsIn_25 ?_
      refine go_istore_n dX12_boatsIn_26 (Nat.le_of_ble_eq_true rfl) ?_
      show gg p l e s m args below meth c G (d + 1) MX12_boatsIn Q 27 [some (.ref 82), some (.int x1), some (.int (x2 ||| (1 <<< (x3 &&& 31)))), some (.int x3)] [] h2
      refine go_iinc (x := x3) dX12_boatsIn_27 rfl ?_
      show gg p l e s m args below meth c G (d + 1) MX12_boatsIn Q 30 [some (.ref 82), some (.int x1), some (.int (x2 ||| (1 <<< (x3 &&& 31)))), some (.int (x3 + 1))] [] h2
      refine go_goto 4 dX12_boatsIn_30 rfl ?_
      exact vc
set_option maxRecDepth 20000 in
theorem wX12_bits_0 {p : Program} {l : Launch} {e : Env} {s : State} {m : MethodId} {args : Array Value} {below : List Frame} {meth : Method} {c : Code} {G : gG} {d : Nat} {Q : Option Value → gH → Prop} {h : gH} {lk sp : Nat} {cd : Option Nat} {a1 : Int32} (hR : h.2.2 = gRF lk sp cd) (hlk : lk = 30 ∨ lk = 67) (hsp : sp = 30 ∨ sp = 67)  (vc : gg p l e s m args below meth c G d MX12_bits Q 4 [some (.int a1), some (.int 0), some (.int a1)] [] h) : gg p l e s m args below meth c G d MX12_bits Q 0 [some (.int a1), none, none] [] h := by
  refine go_iconst (v := 0) dX12_bits_0 rfl ?_
  refine go_istore_n dX12_bits_1 (Nat.le_of_ble_eq_true rfl) ?_
  show gg p l e s m args below meth c G d MX12_bits Q 2 [some (.int a1), some (.int 0), none] [] h
  refine go_iload_n (x := a1) dX12_bits_2 rfl ?_
  refine go_istore_n dX12_bits_3 (Nat.le_of_ble_eq_true rfl) ?_
  show gg p l e s m args below meth c G d MX12_bits Q 4 [some (.int a1), some (.int 0), some (.int a1)] [] h
  exact vc
set_option maxRecDepth 20000 in
theorem wX12_bits_4 {p : Program} {l : Launch} {e : Env} {s : State} {m : MethodId} {args : Array Value} {below : List Frame} {meth : Method} {c : Code} {G : gG} {d : Nat} {Q : Option Value → gH → Prop} {h : gH} {lk sp : Nat} {cd : Option Nat} {x0 : Int32} {x1 : Int32} {x2 : Int32} (hR : h.2.2 = gRF lk sp cd) (hlk : lk = 30 ∨ lk = 67) (hsp : sp = 30 ∨ sp = 67)  (vc : ((x2 = 0 → Q (some (.int x1)) h) ∧ (¬ x2 = 0 → gg p l e s m args below meth c G d MX12_bits Q 4 [some (.int x0), some (.int (x1 + 1)), some (.int (x2 &&& (x2 - 1)))] [] h))) : gg p l e s m args below meth c G d MX12_bits Q 4 [some (.int x0), some (.int x1), some (.int x2)] [] h := by
  refine go_iload_n (x := x2) dX12_bits_4 rfl ?_
  refine go_if_eq 20 dX12_bits_5 rfl (fun q => ?_) (fun q => ?_)
  · replace vc := vc.1 q
    refine go_iload_n (x := x1) dX12_bits_20 rfl ?_
    exact go_iret dX12_bits_21 rfl vc rfl (Nat.le_refl _) (Nat.le_refl _)
  · replace vc := vc.2 q
    refine go_iinc (x := x1) dX12_bits_8 rfl ?_
    show gg p l e s m args below meth c G d MX12_bits Q 11 [some (.int x0), some (.int (x1 + 1)), some (.int x2)] [] h
    refine go_iload_n (x := x2) dX12_bits_11 rfl ?_
    refine go_iload_n (x := x2) dX12_bits_12 rfl ?_
    refine go_iconst (v := 1) dX12_bits_13 rfl ?_
    refine go_isub dX12_bits_14 ?_
    refine go_iand dX12_bits_15 ?_
    refine go_istore_n dX12_bits_16 (Nat.le_of_ble_eq_true rfl) ?_
    show gg p l e s m args below meth c G d MX12_bits Q 17 [some (.int x0), some (.int (x1 + 1)), some (.int (x2 &&& (x2 - 1)))] [] h
    refine go_goto 4 dX12_bits_17 rfl ?_
    exact vc
set_option maxRecDepth 20000 in
theorem wX12_asksOf_0 {p : Program} {l : Launch} {e : Env} {s : State} {m : MethodId} {args : Array Value} {below : List Frame} {meth : Method} {c : Code} {G : gG} {d : Nat} {Q : Option Value → gH → Prop} {h : gH} {lk sp : Nat} {cd : Option Nat} {a1 : Int32} {a2 : Int32} {a3 : Int32} (hR : h.2.2 = gRF lk sp cd) (hlk : lk = 30 ∨ lk = 67) (hsp : sp = 30 ∨ sp = 67)  (vc : gC l G d MX12_depthOf [.ref 82, .int a2] h (rI fun v1 h1 => h1.2.2 = (h).2.2 ∧ gC l G d MX12_isWreck [.ref 82, .int a2] (sI h1 132 0 v1) (rI fun v2 h2 => h2.2.2 = ((sI h1 132 0 v1)).2.2 ∧ ((v2 = 0 → gC l G d MX12_homeOf [.ref 82, .int a2] (sI h2 132 1 0) (rI fun v3 h3 => h3.2.2 = ((sI h2 132 1 0)).2.2 ∧ gC l G d MX12_skyIn [.ref 82, .int (h3.1 133 0)] (sI h3 132 2 v3) (rI fun v4 h4 => h4.2.2 = ((sI h3 132 2 v3)).2.2 ∧ gC l G d MX12_balksOf [.ref 82, .int a1] (sI h4 132 3 v4) (rI fun v5 h5 => h5.2.2 = ((sI h4 132 3 v4)).2.2 ∧ gC l G d MX12_handOf [.ref 82, .int a1] (sI h5 132 4 v5) (rI fun v6 h6 => h6.2.2 = ((sI h5 132 4 v5)).2.2 ∧ ((¬ v6 = (-1) → gC l G d MX12_handOf [.ref 82, .int a1] h6 (rI fun v7 h7 => h7.2.2 = (h6).2.2 ∧ (vp_in ((6 + v7)) 12 ∧ ((¬ a3 = (-1) → ((¬ a3 = (-1) → gC l G d MX12_trustOf [.ref 82, .int a1] (sI (sI (sI h7 132 5 (h7.1 123 ((6 + v7) : Int32).toNatClampNeg)) 132 6 1) 132 7 a3) (rI fun v8 h8 => h8.2.2 = ((sI (sI (sI h7 132 5 (h7.1 123 ((6 + v7) : Int32).toNatClampNeg)) 132 6 1) 132 7 a3)).2.2 ∧ Q none (sI h8 132 8 v8))) ∧ (a3 = (-1) → gC l G d MX12_trustOf [.ref 82, .int a1] (sI (sI (sI h7 132 5 (h7.1 123 ((6 + v7) : Int32).toNatClampNeg)) 132 6 1) 132 7 0) (rI fun v9 h9 => h9.2.2 = ((sI (sI (sI h7 132 5 (h7.1 123 ((6 + v7) : Int32).toNatClampNeg)) 132 6 1) 132 7 0)).2.2 ∧ Q none (sI h9 132 8 v9))))) ∧ (a3 = (-1) → ((¬ a3 = (-1) → gC l G d MX12_trustOf [.ref 82, .int a1] (sI (sI (sI h7 132 5 (h7.1 123 ((6 + v7) : Int32).toNatClampNeg)) 132 6 0) 132 7 a3) (rI fun v10 h10 => h10.2.2 = ((sI (sI (sI h7 132 5 (h7.1 123 ((6 + v7) : Int32).toNatClampNeg)) 132 6 0) 132 7 a3)).2.2 ∧ Q none (sI h10 132 8 v10))) ∧ (a3 = (-1) → gC l G d MX12_trustOf [.ref 82, .int a1] (sI (sI (sI h7 132 5 (h7.1 123 ((6 + v7) : Int32).toNatClampNeg)) 132 6 0) 132 7 0) (rI fun v11 h11 => h11.2.2 = ((sI (sI (sI h7 132 5 (h7.1 123 ((6 + v7) : Int32).toNatClampNeg)) 132 6 0) 132 7 0)).2.2 ∧ Q none (sI h11 132 8 v11))))))))) ∧ (v6 = (-1) → ((¬ a3 = (-1) → ((¬ a3 = (-1) → gC l G d MX12_trustOf [.ref 82, .int a1] (sI (sI (sI h6 132 5 0) 132 6 1) 132 7 a3) (rI fun v12 h12 => h12.2.2 = ((sI (sI (sI h6 132 5 0) 132 6 1) 132 7 a3)).2.2 ∧ Q none (sI h12 132 8 v12))) ∧ (a3 = (-1) → gC l G d MX12_trustOf [.ref 82, .int a1] (sI (sI (sI h6 132 5 0) 132 6 1) 132 7 0) (rI fun v13 h13 => h13.2.2 = ((sI (sI (sI h6 132 5 0) 132 6 1) 132 7 0)).2.2 ∧ Q none (sI h13 132 8 v13))))) ∧ (a3 = (-1) → ((¬ a3 = (-1) → gC l G d MX12_trustOf [.ref 82, .int a1] (sI (sI (sI h6 132 5 0) 132 6 0) 132 7 a3) (rI fun v14 h14 => h14.2.2 = ((sI (sI (sI h6 132 5 0) 132 6 0) 132 7 a3)).2.2 ∧ Q none (sI h14 132 8 v14))) ∧ (a3 = (-1) → gC l G d MX12_trustOf [.ref 82, .int a1] (sI (sI (sI h6 132 5 0) 132 6 0) 132 7 0) (rI fun v15 h15 => h15.2.2 = ((sI (sI (sI h6 132 5 0) 132 6 0) 132 7 0)).2.2 ∧ Q none (sI h15 132 8 v15))))))))))))) ∧ (¬ v2 = 0 → gC l G d MX12_homeOf [.ref 82, .int a2] (sI h2 132 1 1) (rI fun v16 h16 => h16.2.2 = ((sI h2 132 1 1)).2.2 ∧ gC l G d MX12_skyIn [.ref 82, .int (h16.1 133 0)] (sI h16 132 2 v16) (rI fun v17 h17 => h17.2.2 = ((sI h16 132 2 v16)).2.2 ∧ gC l G d MX12_balksOf [.ref 82, .int a1] (sI h17 132 3 v17) (rI fun v18 h18 => h18.2.2 = ((sI h17 132 3 v17)).2.2 ∧ gC l G d MX12_handOf [.ref 82, .int a1] (sI h18 132 4 v18) (rI fun v19 h19 => h19.2.2 = ((sI h18 132 4 v18)).2.2 ∧ ((¬ v19 = (-1) → gC l G d MX12_handOf [.ref 82, .int a1] h19 (rI fun v20 h20 => h20.2.2 = (h19).2.2 ∧ (vp_in ((6 + v20)) 12 ∧ ((¬ a3 = (-1) → ((¬ a3 = (-1) → gC l G d MX12_trustOf [.ref 82, .int a1] (sI (sI (sI h20 132 5 (h20.1 123 ((6 + v20) : Int32).toNatClampNeg)) 132 6 1) 132 7 a3) (rI fun v21 h21 => h21.2.2 = ((sI (sI (sI h20 132 5 (h20.1 123 ((6 + v20) : Int32).toNatClampNeg)) 132 6 1) 132 7 a3)).2.2 ∧ Q none (sI h21 132 8 v21))) ∧ (a3 = (-1) → gC l G d MX12_trustOf [.ref 82, .int a1] (sI (sI (sI h20 132 5 (h20.1 123 ((6 + v20) : Int32).toNatClampNeg)) 132 6 1) 132 7 0) (rI fun v22 h22 => h22.2.2 = ((sI (sI (sI h20 132 5 (h20.1 123 ((6 + v20) : Int32).toNatClampNeg)) 132 6 1) 132 7 0)).2.2 ∧ Q none (sI h22 132 8 v22))))) ∧ (a3 = (-1) → ((¬ a3 = (-1) → gC l G d MX12_trustOf [.ref 82, .int a1] (sI (sI (sI h20 132 5 (h20.1 123 ((6 + v20) : Int32).toNatClampNeg)) 132 6 0) 132 7 a3) (rI fun v23 h23 => h23.2.2 = ((sI (sI (sI h20 132 5 (h20.1 123 ((6 + v20) : Int32).toNatClampNeg)) 132 6 0) 132 7 a3)).2.2 ∧ Q none (sI h23 132 8 v23))) ∧ (a3 = (-1) → gC l G d MX12_trustOf [.ref 82, .int a1] (sI (sI (sI h20 132 5 (h20.1 123 ((6 + v20) : Int32).toNatClampNeg)) 132 6 0) 132 7 0) (rI fun v24 h24 => h24.2.2 = ((sI (sI (sI h20 132 5 (h20.1 123 ((6 + v20) : Int32).toNatClampNeg)) 132 6 0) 132 7 0)).2.2 ∧ Q none (sI h24 132 8 v24))))))))) ∧ (v19 = (-1) → ((¬ a3 = (-1) → ((¬ a3 = (-1) → gC l G d MX12_trustOf [.ref 82, .int a1] (sI (sI (sI h19 132 5 0) 132 6 1) 132 7 a3) (rI fun v25 h25 => h25.2.2 = ((sI (sI (sI h19 132 5 0) 132 6 1) 132 7 a3)).2.2 ∧ Q none (sI h25 132 8 v25))) ∧ (a3 = (-1) → gC l G d MX12_trustOf [.ref 82, .int a1] (sI (sI (sI h19 132 5 0) 132 6 1) 132 7 0) (rI fun v26 h26 => h26.2.2 = ((sI (sI (sI h19 132 5 0) 132 6 1) 132 7 0)).2.2 ∧ Q none (sI h26 132 8 v26))))) ∧ (a3 = (-1) → ((¬ a3 = (-1) → gC l G d MX12_trustOf [.ref 82, .int a1] (sI (sI (sI h19 132 5 0) 132 6 0) 132 7 a3) (rI fun v27 h27 => h27.2.2 = ((sI (sI (sI h19 132 5 0) 132 6 0) 132 7 a3)).2.2 ∧ Q none (sI h27 132 8 v27))) ∧ (a3 = (-1) → gC l G d MX12_trustOf [.ref 82, .int a1] (sI (sI (sI h19 132 5 0) 132 6 0) 132 7 0) (rI fun v28 h28 => h28.2.2 = ((sI (sI (sI h19 132 5 0) 132 6 0) 132 7 0)).2.2 ∧ Q none (sI h28 132 8 v28))))))))))))))))) : gg p l e s m args below meth c G (d + 1) MX12_asksOf Q 0 [some (.ref 82), some (.int a1), some (.int a2), some (.int a3)] [] h := by
  refine go_aload_n (x := 82) dX12_asksOf_0 rfl ?_
  refine go_getR (x := 132) dX12_asksOf_1 f12_163 sh82 (fun _ _ => rfl) (rf82_67 hR) ?_
  refine go_iconst (v := 0) dX12_asksOf_4 rfl ?_
  refine go_aload_n (x := 82) dX12_asksOf_5 rfl ?_
  refine go_iload_n (x := a2) dX12_asksOf_6 rfl ?_
  refine gvI1 MX12_depthOf dX12_asksOf_7 lX12_507 kX12_depthOf vX12_depthOf sh82 (by decide) rfl (Nat.le_of_ble_eq_true rfl) vc ?_
  intro v1 h1 vc
  obtain ⟨hR1, vc⟩ := vc
  replace hR := hR1.trans hR
  refine go_iast dX12_asksOf_10 sh132 (by unfold vp_in; decide) ?_
  refine go_aload_n (x := 82) dX12_asksOf_11 rfl ?_
  refine go_getR (x := 132) dX12_asksOf_12 f12_163 sh82 (fun _ _ => rfl) (rf82_67 hR) ?_
  refine go_iconst (v := 1) dX12_asksOf_15 rfl ?_
  refine go_aload_n (x := 82) dX12_asksOf_16 rfl ?_
  refine go_iload_n (x := a2) dX12_asksOf_17 rfl ?_
  refine gvI1 MX12_isWreck dX12_asksOf_18 lX12_495 kX12_isWreck vX12_isWreck sh82 (by decide) rfl (Nat.le_of_ble_eq_true rfl) vc ?_
  intro v2 h2 vc
  obtain ⟨hR2, vc⟩ := vc
  replace hR := hR2.trans hR
  refine go_if_eq 28 dX12_asksOf_21 rfl (fun q => ?_) (fun q => ?_)
  · replace vc := vc.1 q
    refine go_iconst (v := 0) dX12_asksOf_28 rfl ?_
    refine go_iast dX12_asksOf_29 sh132 (by unfold vp_in; decide) ?_
    refine go_aload_n (x := 82) dX12_asksOf_30 rfl ?_
    refine go_getR (x := 132) dX12_asksOf_31 f12_163 sh82 (fun _ _ => rfl) (rf82_67 hR) ?_
    refine go_iconst (v := 2) dX12_asksOf_34 rfl ?_
    refine go_aload_n (x := 82) dX12_asksOf_35 rfl ?_
    refine go_iload_n (x := a2) dX12_asksOf_36 rfl ?_
    refine gvI1 MX12_homeOf dX12_asksOf_37 lX12_510 kX12_homeOf vX12_homeOf sh82 (by decide) rfl (Nat.le_of_ble_eq_true rfl) vc ?_
    intro v3 h3 vc
    obtain ⟨hR3, vc⟩ := vc
    replace hR := hR3.trans hR
    refine go_iast dX12_asksOf_40 sh132 (by unfold vp_in; decide) ?_
    refine go_aload_n (x := 82) dX12_asksOf_41 rfl ?_
    refine go_getR (x := 132) dX12_asksOf_42 f12_163 sh82 (fun _ _ => rfl) (rf82_67 hR) ?_
    refine go_iconst (v := 3) dX12_asksOf_45 rfl ?_
    refine go_aload_n (x := 82) dX12_asksOf_46 rfl ?_
    refine go_aload_n (x := 82) dX12_asksOf_47 rfl ?_
    refine go_getR (x := 133) dX12_asksOf_48 f12_166 sh82 (fun _ _ => rfl) (rf82_68 hR) ?_
    refine go_iconst (v := 0) dX12_asksOf_51 rfl ?_
    refine go_iald' (v := (h3.1 133 0)) dX12_asksOf_52 sh133 (by unfold vp_in; decide) rfl ?_
    refine gvI1 MX12_skyIn dX12_asksOf_53 lX12_513 kX12_skyIn vX12_skyIn sh82 (by decide) rfl (Nat.le_of_ble_eq_true rfl) vc ?_
    intro v4 h4 vc
    obtain ⟨hR4, vc⟩ := vc
    replace hR := hR4.trans hR
    refine go_iast dX12_asksOf_56 sh132 (by unfold vp_in; decide) ?_
    refine go_aload_n (x := 82) dX12_asksOf_57 rfl ?_
    refine go_getR (x := 132) dX12_asksOf_58 f12_163 sh82 (fun _ _ => rfl) (rf82_67 hR) ?_
    refine go_iconst (v := 4) dX12_asksOf_61 rfl ?_
    refine go_aload_n (x := 82) dX12_asksOf_62 rfl ?_
    refine go_iload_n (x := a1) dX12_asksOf_63 rfl ?_
    refine gvI1 MX12_balksOf dX12_asksOf_64 lX12_516 kX12_balksOf vX12_balksOf sh82 (by decide) rfl (Nat.le_of_ble_eq_true rfl) vc ?_
    intro v5 h5 vc
    obtain ⟨hR5, vc⟩ := vc
    replace hR := hR5.trans hR
    refine go_iast dX12_asksOf_67 sh132 (by unfold vp_in; decide) ?_
    refine go_aload_n (x := 82) dX12_asksOf_68 rfl ?_
    refine go_getR (x := 132) dX12_asksOf_69 f12_163 sh82 (fun _ _ => rfl) (rf82_67 hR) ?_
    refine go_iconst (v := 5) dX12_asksOf_72 rfl ?_
    refine go_aload_n (x := 82) dX12_asksOf_73 rfl ?_
    refine go_iload_n (x := a1) dX12_asksOf_74 rfl ?_
    refine gvI1 MX12_handOf dX12_asksOf_75 lX12_519 kX12_handOf vX12_handOf sh82 (by decide) rfl (Nat.le_of_ble_eq_true rfl) vc ?_
    intro v6 h6 vc
    obtain ⟨hR6, vc⟩ := vc
    replace hR := hR6.trans hR
    refine go_iconst (v := (-1)) dX12_asksOf_78 rfl ?_
    refine go_icmp_ne 86 dX12_asksOf_79 rfl (fun q => ?_) (fun q => ?_)
    · replace vc := vc.1 q
      refine go_aload_n (x := 82) dX12_asksOf_86 rfl ?_
      refine go_getR (x := 123) dX12_asksOf_87 f12_136 sh82 (fun _ _ => rfl) (rf82_50 hR) ?_
      refine go_bipush (v := 6) dX12_asksOf_90 rfl ?_
      refine go_aload_n (x := 82) dX12_asksOf_92 rfl ?_
      refine go_iload_n (x := a1) dX12_asksOf_93 rfl ?_
      refine gvI1 MX12_handOf dX12_asksOf_94 lX12_519 kX12_handOf vX12_handOf sh82 (by decide) rfl (Nat.le_of_ble_eq_true rfl) vc ?_
      intro v7 h7 vc
      obtain ⟨hR7, vc⟩ := vc
      replace hR := hR7.trans hR
      refine go_iadd dX12_asksOf_97 ?_
      refine go_iald' (v := (h7.1 123 ((6 + v7) : Int32).toNatClampNeg)) dX12_asksOf_98 sh123 vc.1 rfl ?_
      have vc := vc.2
      refine go_iast dX12_asksOf_99 sh132 (by unfold vp_in; decide) ?_
      refine go_aload_n (x := 82) dX12_asksOf_100 rfl ?_
      refine go_getR (x := 132) dX12_asksOf_101 f12_163 sh82 (fun _ _ => rfl) (rf82_67 hR) ?_
      refine go_bipush (v := 6) dX12_asksOf_104 rfl ?_
      refine go_iload_n (x := a3) dX12_asksOf_106 rfl ?_
      refine go_iconst (v := (-1)) dX12_asksOf_107 rfl ?_
      refine go_icmp_ne 115 dX12_asksOf_108 rfl (fun q => ?_) (fun q => ?_)
      · replace vc := vc.1 q
        refine go_iconst (v := 1) dX12_asksOf_115 rfl ?_
        refine go_iast dX12_asksOf_116 sh132 (by unfold vp_in; decide) ?_
        refine go_aload_n (x := 82) dX12_asksOf_117 rfl ?_
        refine go_getR (x := 132) dX12_asksOf_118 f12_163 sh82 (fun _ _ => rfl) (rf82_67 hR) ?_
        refine go_bipush (v := 7) dX12_asksOf_121 rfl ?_
        refine go_iload_n (x := a3) dX12_asksOf_123 rfl ?_
        refine go_iconst (v := (-1)) dX12_asksOf_124 rfl ?_
        refine go_icmp_ne 132 dX12_asksOf_125 rfl (fun q => ?_) (fun q => ?_)
        · replace vc := vc.1 q
          refine go_iload_n (x := a3) dX12_asksOf_132 rfl ?_
          refine go_iast dX12_asksOf_133 sh132 (by unfold vp_in; decide) ?_
          refine go_aload_n (x := 82) dX12_asksOf_134 rfl ?_
          refine go_getR (x := 132) dX12_asksOf_135 f12_163 sh82 (fun _ _ => rfl) (rf82_67 hR) ?_
          refine go_bipush (v := 8) dX12_asksOf_138 rfl ?_
          refine go_aload_n (x := 82) dX12_asksOf_140 rfl ?_
          refine go_iload_n (x := a1) dX12_asksOf_141 rfl ?_
          refine gvI1 MX12_trustOf dX12_asksOf_142 lX12_522 kX12_trustOf vX12_trustOf sh82 (by decide) rfl (Nat.le_of_ble_eq_true rfl) vc ?_
          intro v8 h8 vc
          obtain ⟨hR8, vc⟩ := vc
          replace hR := hR8.trans hR
          refine go_iast dX12_asksOf_145 sh132 (by unfold vp_in; decide) ?_
          exact go_vret dX12_asksOf_146 rfl vc rfl (Nat.le_refl _) (Nat.le_refl _)
        · replace vc := vc.2 q
          refine go_iconst (v := 0) dX12_asksOf_128 rfl ?_
          refine go_goto 133 dX12_asksOf_129 rfl ?_
          refine go_iast dX12_asksOf_133 sh132 (by unfold vp_in; decide) ?_
          refine go_aload_n (x := 82) dX12_asksOf_134 rfl ?_
          refine go_getR (x := 132) dX12_asksOf_135 f12_163 sh82 (fun _ _ => rfl) (rf82_67 hR) ?_
          refine go_bipush (v := 8) dX12_asksOf_138 rfl ?_
          refine go_aload_n (x := 82) dX12_asksOf_140 rfl ?_
          refine go_iload_n (x := a1) dX12_asksOf_141 rfl ?_
          refine gvI1 MX12_trustOf dX12_asksOf_142 lX12_522 kX12_trustOf vX12_trustOf sh82 (by decide) rfl (Nat.le_of_ble_eq_true rfl) vc ?_
          intro v9 h9 vc
          obtain ⟨hR9, vc⟩ := vc
          replace hR := hR9.trans hR
          refine go_iast dX12_asksOf_145 sh132 (by unfold vp_in; decide) ?_
          exact go_vret dX12_asksOf_146 rfl vc rfl (Nat.le_refl _) (Nat.le_refl _)
      · replace vc := vc.2 q
        refine go_iconst (v := 0) dX12_asksOf_111 rfl ?_
        refine go_goto 116 dX12_asksOf_112 rfl ?_
        refine go_iast dX12_asksOf_116 sh132 (by unfold vp_in; decide) ?_
        refine go_aload_n (x := 82) dX12_asksOf_117 rfl ?_
        refine go_getR (x := 132) dX12_asksOf_118 f12_163 sh82 (fun _ _ => rfl) (rf82_67 hR) ?_
        refine go_bipush (v := 7) dX12_asksOf_121 rfl ?_
        refine go_iload_n (x := a3) dX12_asksOf_123 rfl ?_
        refine go_iconst (v := (-1)) dX12_asksOf_124 rfl ?_
        refine go_icmp_ne 132 dX12_asksOf_125 rfl (fun q => ?_) (fun q => ?_)
        · replace vc := vc.1 q
          refine go_iload_n (x := a3) dX12_asksOf_132 rfl ?_
          refine go_iast dX12_asksOf_133 sh132 (by unfold vp_in; decide) ?_
          refine go_aload_n (x := 82) dX12_asksOf_134 rfl ?_
          refine go_getR (x := 132) dX12_asksOf_135 f12_163 sh82 (fun _ _ => rfl) (rf82_67 hR) ?_
          refine go_bipush (v := 8) dX12_asksOf_138 rfl ?_
          refine go_aload_n (x := 82) dX12_asksOf_140 rfl ?_
          refine go_iload_n (x := a1) dX12_asksOf_141 rfl ?_
          refine gvI1 MX12_trustOf dX12_asksOf_142 lX12_522 kX12_trustOf vX12_trustOf sh82 (by decide) rfl (Nat.le_of_ble_eq_true rfl) vc ?_
          intro v10 h10 vc
          obtain ⟨hR10, vc⟩ := vc
          replace hR := hR10.trans hR
          refine go_iast dX12_asksOf_145 sh132 (by unfold vp_in; decide) ?_
          exact go_vret dX12_asksOf_146 rfl vc rfl (Nat.le_refl _) (Nat.le_refl _)
        · replace vc := vc.2 q
          refine go_iconst (v := 0) dX12_asksOf_128 rfl ?_
          refine go_goto 133 dX12_asksOf_129 rfl ?_
          refine go_iast dX12_asksOf_133 sh132 (by unfold vp_in; decide) ?_
          refine go_aload_n (x := 82) dX12_asksOf_134 rfl ?_
          refine go_getR (x := 132) dX12_asksOf_135 f12_163 sh82 (fun _ _ => rfl) (rf82_67 hR) ?_
          refine go_bipush (v := 8) dX12_asksOf_138 rfl ?_
          refine go_aload_n (x := 82) dX12_asksOf_140 rfl ?_
          refine go_iload_n (x := a1) dX12_asksOf_141 rfl ?_
          refine gvI1 MX12_trustOf dX12_asksOf_142 lX12_522 kX12_trustOf vX12_trustOf sh82 (by decide) rfl (Nat.le_of_ble_eq_true rfl) vc ?_
          intro v11 h11 vc
          obtain ⟨hR11, vc⟩ := vc
          replace hR := hR11.trans hR
          refine go_iast dX12_asksOf_145 sh132 (by unfold vp_in; decide) ?_
          exact go_vret dX12_asksOf_146 rfl vc rfl (Nat.le_refl _) (Nat.le_refl _)
    · replace vc := vc.2 q
      refine go_iconst (v := 0) dX12_asksOf_82 rfl ?_
      refine go_goto 99 dX12_asksOf_83 rfl ?_
      refine go_iast dX12_asksOf_99 sh132 (by unfold vp_in; decide) ?_
      refine go_aload_n (x := 82) dX12_asksOf_100 rfl ?_
      refine go_getR (x := 132) dX12_asksOf_101 f12_163 sh82 (fun _ _ => rfl) (rf82_67 hR) ?_
      refine go_bipush (v := 6) dX12_asksOf_104 rfl ?_
      refine go_iload_n (x := a3) dX12_asksOf_106 rfl ?_
      refine go_iconst (v := (-1)) dX12_asksOf_107 rfl ?_
      refine go_icmp_ne 115 dX12_asksOf_108 rfl (fun q => ?_) (fun q => ?_)
      · replace vc := vc.1 q
        refine go_iconst (v := 1) dX12_asksOf_115 rfl ?_
        refine go_iast dX12_asksOf_116 sh132 (by unfold vp_in; decide) ?_
        refine go_aload_n (x := 82) dX12_asksOf_117 rfl ?_
        refine go_getR (x := 132) dX12_asksOf_118 f12_163 sh82 (fun _ _ => rfl) (rf82_67 hR) ?_
        refine go_bipush (v := 7) dX12_asksOf_121 rfl ?_
        refine go_iload_n (x := a3) dX12_asksOf_123 rfl ?_
        refine go_iconst (v := (-1)) dX12_asksOf_124 rfl ?_
        refine go_icmp_ne 132 dX12_asksOf_125 rfl (fun q => ?_) (fun q => ?_)
        · replace vc := vc.1 q
          refine go_iload_n (x := a3) dX12_asksOf_132 rfl ?_
          refine go_iast dX12_asksOf_133 sh132 (by unfold vp_in; decide) ?_
          refine go_aload_n (x := 82) dX12_asksOf_134 rfl ?_
          refine go_getR (x := 132) dX12_asksOf_135 f12_163 sh82 (fun _ _ => rfl) (rf82_67 hR) ?_
          refine go_bipush (v := 8) dX12_asksOf_138 rfl ?_
          refine go_aload_n (x := 82) dX12_asksOf_140 rfl ?_
          refine go_iload_n (x := a1) dX12_asksOf_141 rfl ?_
          refine gvI1 MX12_trustOf dX12_asksOf_142 lX12_522 kX12_trustOf vX12_trustOf sh82 (by decide) rfl (Nat.le_of_ble_eq_true rfl) vc ?_
          intro v12 h12 vc
          obtain ⟨hR12, vc⟩ := vc
          replace hR := hR12.trans hR
          refine go_iast dX12_asksOf_145 sh132 (by unfold vp_in; decide) ?_
          exact go_vret dX12_asksOf_146 rfl vc rfl (Nat.le_refl _) (Nat.le_refl _)
        · replace vc := vc.2 q
          refine go_iconst (v := 0) dX12_asksOf_128 rfl ?_
          refine go_goto 133 dX12_asksOf_129 rfl ?_
          refine go_iast dX12_asksOf_133 sh132 (by unfold vp_in; decide) ?_
          refine go_aload_n (x := 82) dX12_asksOf_134 rfl ?_
          refine go_getR (x := 132) dX12_asksOf_135 f12_163 sh82 (fun _ _ => rfl) (rf82_67 hR) ?_
          refine go_bipush (v := 8) dX12_asksOf_138 rfl ?_
          refine go_aload_n (x := 82) dX12_asksOf_140 rfl ?_
          refine go_iload_n (x := a1) dX12_asksOf_141 rfl ?_
          refine gvI1 MX12_trustOf dX12_asksOf_142 lX12_522 kX12_trustOf vX12_trustOf sh82 (by decide) rfl (Nat.le_of_ble_eq_true rfl) vc ?_
          intro v13 h13 vc
          obtain ⟨hR13, vc⟩ := vc
          replace hR := hR13.trans hR
          refine go_iast dX12_asksOf_145 sh132 (by unfold vp_in; decide) ?_
          exact go_vret dX12_asksOf_146 rfl vc rfl (Nat.le_refl _) (Nat.le_refl _)
      · replace vc := vc.2 q
        refine go_iconst (v := 0) dX12_asksOf_111 rfl ?_
        refine go_goto 116 dX12_asksOf_112 rfl ?_
        refine go_iast dX12_asksOf_116 sh132 (by unfold vp_in; decide) ?_
        refine go_aload_n (x := 82) dX12_asksOf_117 rfl ?_
        refine go_getR (x := 132) dX12_asksOf_118 f12_163 sh82 (fun _ _ => rfl) (rf82_67 hR) ?_
        refine go_bipush (v := 7) dX12_asksOf_121 rfl ?_
        refine go_iload_n (x := a3) dX12_asksOf_123 rfl ?_
        refine go_iconst (v := (-1)) dX12_asksOf_124 rfl ?_
        refine go_icmp_ne 132 dX12_asksOf_125 rfl (fun q => ?_) (fun q => ?_)
        · replace vc := vc.1 q
          refine go_iload_n (x := a3) dX12_asksOf_132 rfl ?_
          refine go_iast dX12_asksOf_133 sh132 (by unfold vp_in; decide) ?_
          refine go_aload_n (x := 82) dX12_asksOf_134 rfl ?_
          refine go_getR (x := 132) dX12_asksOf_135 f12_163 sh82 (fun _ _ => rfl) (rf82_67 hR) ?_
          refine go_bipush (v := 8) dX12_asksOf_138 rfl ?_
          refine go_aload_n (x := 82) dX12_asksOf_140 rfl ?_
          refine go_iload_n (x := a1) dX12_asksOf_141 rfl ?_
          refine gvI1 MX12_trustOf dX12_asksOf_142 lX12_522 kX12_trustOf vX12_trustOf sh82 (by decide) rfl (Nat.le_of_ble_eq_true rfl) vc ?_
          intro v14 h14 vc
          obtain ⟨hR14, vc⟩ := vc
          replace hR := hR14.trans hR
          refine go_iast dX12_asksOf_145 sh132 (by unfold vp_in; decide) ?_
          exact go_vret dX12_asksOf_146 rfl vc rfl (Nat.le_refl _) (Nat.le_refl _)
        · replace vc := vc.2 q
          refine go_iconst (v := 0) dX12_asksOf_128 rfl ?_
          refine go_goto 133 dX12_asksOf_129 rfl ?_
          refine go_iast dX12_asksOf_133 sh132 (by unfold vp_in; decide) ?_
          refine go_aload_n (x := 82) dX12_asksOf_134 rfl ?_
          refine go_getR (x := 132) dX12_asksOf_135 f12_163 sh82 (fun _ _ => rfl) (rf82_67 hR) ?_
          refine go_bipush (v := 8) dX12_asksOf_138 rfl ?_
          refine go_aload_n (x := 82) dX12_asksOf_140 rfl ?_
          refine go_iload_n (x := a1) dX12_asksOf_141 rfl ?_
          refine gvI1 MX12_trustOf dX12_asksOf_142 lX12_522 kX12_trustOf vX12_trustOf sh82 (by decide) rfl (Nat.le_of_ble_eq_true rfl) vc ?_
          intro v15 h15 vc
          obtain ⟨hR15, vc⟩ := vc
          replace hR := hR15.trans hR
          refine go_iast dX12_asksOf_145 sh132 (by unfold vp_in; decide) ?_
          exact go_vret dX12_asksOf_146 rfl vc rfl (Nat.le_refl _) (Nat.le_refl _)
  · replace vc := vc.2 q
    refine go_iconst (v := 1) dX12_asksOf_24 rfl ?_
    refine go_goto 29 dX12_asksOf_25 rfl ?_
    refine go_iast dX12_asksOf_29 sh132 (by unfold vp_in; decide) ?_
    refine go_aload_n (x := 82) dX12_asksOf_30 rfl ?_
    refine go_getR (x := 132) dX12_asksOf_31 f12_163 sh82 (fun _ _ => rfl) (rf82_67 hR) ?_
    refine go_iconst (v := 2) dX12_asksOf_34 rfl ?_
    refine go_aload_n (x := 82) dX12_asksOf_35 rfl ?_
    refine go_iload_n (x := a2) dX12_asksOf_36 rfl ?_
    refine gvI1 MX12_homeOf dX12_asksOf_37 lX12_510 kX12_homeOf vX12_homeOf sh82 (by decide) rfl (Nat.le_of_ble_eq_true rfl) vc ?_
    intro v16 h16 vc
    obtain ⟨hR16, vc⟩ := vc
    replace hR := hR16.trans hR
    refine go_iast dX12_asksOf_40 sh132 (by unfold vp_in; decide) ?_
    refine go_aload_n (x := 82) dX12_asksOf_41 rfl ?_
    refine go_getR (x := 132) dX12_asksOf_42 f12_163 sh82 (fun _ _ => rfl) (rf82_67 hR) ?_
    refine go_iconst (v := 3) dX12_asksOf_45 rfl ?_
    refine go_aload_n (x := 82) dX12_asksOf_46 rfl ?_
    refine go_aload_n (x := 82) dX12_asksOf_47 rfl ?_
    refine go_getR (x := 133) dX12_asksOf_48 f12_166 sh82 (fun _ _ => rfl) (rf82_68 hR) ?_
    refine go_iconst (v := 0) dX12_asksOf_51 rfl ?_
    refine go_iald' (v := (h16.1 133 0)) dX12_asksOf_52 sh133 (by unfold vp_in; decide) rfl ?_
    refine gvI1 MX12_skyIn dX12_asksOf_53 lX12_513 kX12_skyIn vX12_skyIn sh82 (by decide) rfl (Nat.le_of_ble_eq_true rfl) vc ?_
    intro v17 h17 vc
    obtain ⟨hR17, vc⟩ := vc
    replace hR := hR17.trans hR
    refine go_iast dX12_asksOf_56 sh132 (by unfold vp_in; decide) ?_
    refine go_aload_n (x := 82) dX12_asksOf_57 rfl ?_
    refine go_getR (x := 132) dX12_asksOf_58 f12_163 sh82 (fun _ _ => rfl) (rf82_67 hR) ?_
    refine go_iconst (v := 4) dX12_asksOf_61 rfl ?_
    refine go_aload_n (x := 82) dX12_asksOf_62 rfl ?_
    refine go_iload_n (x := a1) dX12_asksOf_63 rfl ?_
    refine gvI1 MX12_balksOf dX12_asksOf_64 lX12_516 kX12_balksOf vX12_balksOf sh82 (by decide) rfl (Nat.le_of_ble_eq_true rfl) vc ?_
    intro v18 h18 vc
    obtain ⟨hR18, vc⟩ := vc
    replace hR := hR18.trans hR
    refine go_iast dX12_asksOf_67 sh132 (by unfold vp_in; decide) ?_
    refine go_aload_n (x := 82) dX12_asksOf_68 rfl ?_
    refine go_getR (x := 132) dX12_asksOf_69 f12_163 sh82 (fun _ _ => rfl) (rf82_67 hR) ?_
    refine go_iconst (v := 5) dX12_asksOf_72 rfl ?_
    refine go_aload_n (x := 82) dX12_asksOf_73 rfl ?_
    refine go_iload_n (x := a1) dX12_asksOf_74 rfl ?_
    refine gvI1 MX12_handOf dX12_asksOf_75 lX12_519 kX12_handOf vX12_handOf sh82 (by decide) rfl (Nat.le_of_ble_eq_true rfl) vc ?_
    intro v19 h19 vc
    obtain ⟨hR19, vc⟩ := vc
    replace hR := hR19.trans hR
    refine go_iconst (v := (-1)) dX12_asksOf_78 rfl ?_
    refine go_icmp_ne 86 dX12_asksOf_79 rfl (fun q => ?_) (fun q => ?_)
    · replace vc := vc.1 q
      refine go_aload_n (x := 82) dX12_asksOf_86 rfl ?_
      refine go_getR (x := 123) dX12_asksOf_87 f12_136 sh82 (fun _ _ => rfl) (rf82_50 hR) ?_
      refine go_bipush (v := 6) dX12_asksOf_90 rfl ?_
      refine go_aload_n (x := 82) dX12_asksOf_92 rfl ?_
      refine go_iload_n (x := a1) dX12_asksOf_93 rfl ?_
      refine gvI1 MX12_handOf dX12_asksOf_94 lX12_519 kX12_handOf vX12_handOf sh82 (by decide) rfl (Nat.le_of_ble_eq_true rfl) vc ?_
      intro v20 h20 vc
      obtain ⟨hR20, vc⟩ := vc
      replace hR := hR20.trans hR
      refine go_iadd dX12_asksOf_97 ?_
      refine go_iald' (v := (h20.1 123 ((6 + v20) : Int32).toNatClampNeg)) dX12_asksOf_98 sh123 vc.1 rfl ?_
      have vc := vc.2
      refine go_iast dX12_asksOf_99 sh132 (by unfold vp_in; decide) ?_
      refine go_aload_n (x := 82) dX12_asksOf_100 rfl ?_
      refine go_getR (x := 132) dX12_asksOf_101 f12_163 sh82 (fun _ _ => rfl) (rf82_67 hR) ?_
      refine go_bipush (v := 6) dX12_asksOf_104 rfl ?_
      refine go_iload_n (x := a3) dX12_asksOf_106 rfl ?_
      refine go_iconst (v := (-1)) dX12_asksOf_107 rfl ?_
      refine go_icmp_ne 115 dX12_asksOf_108 rfl (fun q => ?_) (fun q => ?_)
      · replace vc := vc.1 q
        refine go_iconst (v := 1) dX12_asksOf_115 rfl ?_
        refine go_iast dX12_asksOf_116 sh132 (by unfold vp_in; decide) ?_
        refine go_aload_n (x := 82) dX12_asksOf_117 rfl ?_
        refine go_getR (x := 132) dX12_asksOf_118 f12_163 sh82 (fun _ _ => rfl) (rf82_67 hR) ?_
        refine go_bipush (v := 7) dX12_asksOf_121 rfl ?_
        refine go_iload_n (x := a3) dX12_asksOf_123 rfl ?_
        refine go_iconst (v := (-1)) dX12_asksOf_124 rfl ?_
        refine go_icmp_ne 132 dX12_asksOf_125 rfl (fun q => ?_) (fun q => ?_)
        · replace vc := vc.1 q
          refine go_iload_n (x := a3) dX12_asksOf_132 rfl ?_
          refine go_iast dX12_asksOf_133 sh132 (by unfold vp_in; decide) ?_
          refine go_aload_n (x := 82) dX12_asksOf_134 rfl ?_
          refine go_getR (x := 132) dX12_asksOf_135 f12_163 sh82 (fun _ _ => rfl) (rf82_67 hR) ?_
          refine go_bipush (v := 8) dX12_asksOf_138 rfl ?_
          refine go_aload_n (x := 82) dX12_asksOf_140 rfl ?_
          refine go_iload_n (x := a1) dX12_asksOf_141 rfl ?_
          refine gvI1 MX12_trustOf dX12_asksOf_142 lX12_522 kX12_trustOf vX12_trustOf sh82 (by decide) rfl (Nat.le_of_ble_eq_true rfl) vc ?_
          intro v21 h21 vc
          obtain ⟨hR21, vc⟩ := vc
          replace hR := hR21.trans hR
          refine go_iast dX12_asksOf_145 sh132 (by unfold vp_in; decide) ?_
          exact go_vret dX12_asksOf_146 rfl vc rfl (Nat.le_refl _) (Nat.le_refl _)
        · replace vc := vc.2 q
          refine go_iconst (v := 0) dX12_asksOf_128 rfl ?_
          refine go_goto 133 dX12_asksOf_129 rfl ?_
          refine go_iast dX12_asksOf_133 sh132 (by unfold vp_in; decide) ?_
          refine go_aload_n (x := 82) dX12_asksOf_134 rfl ?_
          refine go_getR (x := 132) dX12_asksOf_135 f12_163 sh82 (fun _ _ => rfl) (rf82_67 hR) ?_
          refine go_bipush (v := 8) dX12_asksOf_138 rfl ?_
          refine go_aload_n (x := 82) dX12_asksOf_140 rfl ?_
          refine go_iload_n (x := a1) dX12_asksOf_141 rfl ?_
          refine gvI1 MX12_trustOf dX12_asksOf_142 lX12_522 kX12_trustOf vX12_trustOf sh82 (by decide) rfl (Nat.le_of_ble_eq_true rfl) vc ?_
          intro v22 h22 vc
          obtain ⟨hR22, vc⟩ := vc
          replace hR := hR22.trans hR
          refine go_iast dX12_asksOf_145 sh132 (by unfold vp_in; decide) ?_
          exact go_vret dX12_asksOf_146 rfl vc rfl (Nat.le_refl _) (Nat.le_refl _)
      · replace vc := vc.2 q
        refine go_iconst (v := 0) dX12_asksOf_111 rfl ?_
        refine go_goto 116 dX12_asksOf_112 rfl ?_
        refine go_iast dX12_asksOf_116 sh132 (by unfold vp_in; decide) ?_
        refine go_aload_n (x := 82) dX12_asksOf_117 rfl ?_
        refine go_getR (x := 132) dX12_asksOf_118 f12_163 sh82 (fun _ _ => rfl) (rf82_67 hR) ?_
        refine go_bipush (v := 7) dX12_asksOf_121 rfl ?_
        refine go_iload_n (x := a3) dX12_asksOf_123 rfl ?_
        refine go_iconst (v := (-1)) dX12_asksOf_124 rfl ?_
        refine go_icmp_ne 132 dX12_asksOf_125 rfl (fun q => ?_) (fun q => ?_)
        · replace vc := vc.1 q
          refine go_iload_n (x := a3) dX12_asksOf_132 rfl ?_
          refine go_iast dX12_asksOf_133 sh132 (by unfold vp_in; decide) ?_
          refine go_aload_n (x := 82) dX12_asksOf_134 rfl ?_
          refine go_getR (x := 132) dX12_asksOf_135 f12_163 sh82 (fun _ _ => rfl) (rf82_67 hR) ?_
          refine go_bipush (v := 8) dX12_asksOf_138 rfl ?_
          refine go_aload_n (x := 82) dX12_asksOf_140 rfl ?_
          refine go_iload_n (x := a1) dX12_asksOf_141 rfl ?_
          refine gvI1 MX12_trustOf dX12_asksOf_142 lX12_522 kX12_trustOf vX12_trustOf sh82 (by decide) rfl (Nat.le_of_ble_eq_true rfl) vc ?_
          intro v23 h23 vc
          obtain ⟨hR23, vc⟩ := vc
          replace hR := hR23.trans hR
          refine go_iast dX12_asksOf_145 sh132 (by unfold vp_in; decide) ?_
          exact go_vret dX12_asksOf_146 rfl vc rfl (Nat.le_refl _) (Nat.le_refl _)
        · replace vc := vc.2 q
          refine go_iconst (v := 0) dX12_asksOf_128 rfl ?_
          refine go_goto 133 dX12_asksOf_129 rfl ?_
          refine go_iast dX12_asksOf_133 sh132 (by unfold vp_in; decide) ?_
          refine go_aload_n (x := 82) dX12_asksOf_134 rfl ?_
          refine go_getR (x := 132) dX12_asksOf_135 f12_163 sh82 (fun _ _ => rfl) (rf82_67 hR) ?_
          refine go_bipush (v := 8) dX12_asksOf_138 rfl ?_
          refine go_aload_n (x := 82) dX12_asksOf_140 rfl ?_
          refine go_iload_n (x := a1) dX12_asksOf_141 rfl ?_
          refine gvI1 MX12_trustOf dX12_asksOf_142 lX12_522 kX12_trustOf vX12_trustOf sh82 (by decide) rfl (Nat.le_of_ble_eq_true rfl) vc ?_
          intro v24 h24 vc
          obtain ⟨hR24, vc⟩ := vc
          replace hR := hR24.trans hR
          refine go_iast dX12_asksOf_145 sh132 (by unfold vp_in; decide) ?_
          exact go_vret dX12_asksOf_146 rfl vc rfl (Nat.le_refl _) (Nat.le_refl _)
    · replace vc := vc.2 q
      refine go_iconst (v := 0) dX12_asksOf_82 rfl ?_
      refine go_goto 99 dX12_asksOf_83 rfl ?_
      refine go_iast dX12_asksOf_99 sh132 (by unfold vp_in; decide) ?_
      refine go_aload_n (x := 82) dX12_asksOf_100 rfl ?_
      refine go_getR (x := 132) dX12_asksOf_101 f12_163 sh82 (fun _ _ => rfl) (rf82_67 hR) ?_
      refine go_bipush (v := 6) dX12_asksOf_104 rfl ?_
      refine go_iload_n (x := a3) dX12_asksOf_106 rfl ?_
      refine go_iconst (v := (-1)) dX12_asksOf_107 rfl ?_
      refine go_icmp_ne 115 dX12_asksOf_108 rfl (fun q => ?_) (fun q => ?_)
      · replace vc := vc.1 q
        refine go_iconst (v := 1) dX12_asksOf_115 rfl ?_
        refine go_iast dX12_asksOf_116 sh132 (by unfold vp_in; decide) ?_
        refine go_aload_n (x := 82) dX12_asksOf_117 rfl ?_
        refine go_getR (x := 132) dX12_asksOf_118 f12_163 sh82 (fun _ _ => rfl) (rf82_67 hR) ?_
        refine go_bipush (v := 7) dX12_asksOf_121 rfl ?_
        refine go_iload_n (x := a3) dX12_asksOf_123 rfl ?_
        refine go_iconst (v := (-1)) dX12_asksOf_124 rfl ?_
        refine go_icmp_ne 132 dX12_asksOf_125 rfl (fun q => ?_) (fun q => ?_)
        · replace vc := vc.1 q
          refine go_iload_n (x := a3) dX12_asksOf_132 rfl ?_
          refine go_iast dX12_asksOf_133 sh132 (by unfold vp_in; decide) ?_
          refine go_aload_n (x := 82) dX12_asksOf_134 rfl ?_
          refine go_getR (x := 132) dX12_asksOf_135 f12_163 sh82 (fun _ _ => rfl) (rf82_67 hR) ?_
          refine go_bipush (v := 8) dX12_asksOf_138 rfl ?_
          refine go_aload_n (x := 82) dX12_asksOf_140 rfl ?_
          refine go_iload_n (x := a1) dX12_asksOf_141 rfl ?_
          refine gvI1 MX12_trustOf dX12_asksOf_142 lX12_522 kX12_trustOf vX12_trustOf sh82 (by decide) rfl (Nat.le_of_ble_eq_true rfl) vc ?_
          intro v25 h25 vc
          obtain ⟨hR25, vc⟩ := vc
          replace hR := hR25.trans hR
          refine go_iast dX12_asksOf_145 sh132 (by unfold vp_in; decide) ?_
          exact go_vret dX12_asksOf_146 rfl vc rfl (Nat.le_refl _) (Nat.le_refl _)
        · replace vc := vc.2 q
          refine go_iconst (v := 0) dX12_asksOf_128 rfl ?_
          refine go_goto 133 dX12_asksOf_129 rfl ?_
          refine go_iast dX12_asksOf_133 sh132 (by unfold vp_in; decide) ?_
          refine go_aload_n (x := 82) dX12_asksOf_134 rfl ?_
          refine go_getR (x := 132) dX12_asksOf_135 f12_163 sh82 (fun _ _ => rfl) (rf82_67 hR) ?_
          refine go_bipush (v := 8) dX12_asksOf_138 rfl ?_
          refine go_aload_n (x := 82) dX12_asksOf_140 rfl ?_
          refine go_iload_n (x := a1) dX12_asksOf_141 rfl ?_
          refine gvI1 MX12_trustOf dX12_asksOf_142 lX12_522 kX12_trustOf vX12_trustOf sh82 (by decide) rfl (Nat.le_of_ble_eq_true rfl) vc ?_
          intro v26 h26 vc
          obtain ⟨hR26, vc⟩ := vc
          replace hR := hR26.trans hR
          refine go_iast dX12_asksOf_145 sh132 (by unfold vp_in; decide) ?_
          exact go_vret dX12_asksOf_146 rfl vc rfl (Nat.le_refl _) (Nat.le_refl _)
      · replace vc := vc.2 q
        refine go_iconst (v := 0) dX12_asksOf_111 rfl ?_
        refine go_goto 116 dX12_asksOf_112 rfl ?_
        refine go_iast dX12_asksOf_116 sh132 (by unfold vp_in; decide) ?_
        refine go_aload_n (x := 82) dX12_asksOf_117 rfl ?_
        refine go_getR (x := 132) dX12_asksOf_118 f12_163 sh82 (fun _ _ => rfl) (rf82_67 hR) ?_
        refine go_bipush (v := 7) dX12_asksOf_121 rfl ?_
        refine go_iload_n (x := a3) dX12_asksOf_123 rfl ?_
        refine go_iconst (v := (-1)) dX12_asksOf_124 rfl ?_
        refine go_icmp_ne 132 dX12_asksOf_125 rfl (fun q => ?_) (fun q => ?_)
        · replace vc := vc.1 q
          refine go_iload_n (x := a3) dX12_asksOf_132 rfl ?_
          refine go_iast dX12_asksOf_133 sh132 (by unfold vp_in; decide) ?_
          refine go_aload_n (x := 82) dX12_asksOf_134 rfl ?_
          refine go_getR (x := 132) dX12_asksOf_135 f12_163 sh82 (fun _ _ => rfl) (rf82_67 hR) ?_
          refine go_bipush (v := 8) dX12_asksOf_138 rfl ?_
          refine go_aload_n (x := 82) dX12_asksOf_140 rfl ?_
          refine go_iload_n (x := a1) dX12_asksOf_141 rfl ?_
          refine gvI1 MX12_trustOf dX12_asksOf_142 lX12_522 kX12_trustOf vX12_trustOf sh82 (by decide) rfl (Nat.le_of_ble_eq_true rfl) vc ?_
          intro v27 h27 vc
          obtain ⟨hR27, vc⟩ := vc
          replace hR := hR27.trans hR
          refine go_iast dX12_asksOf_145 sh132 (by unfold vp_in; decide) ?_
          exact go_vret dX12_asksOf_146 rfl vc rfl (Nat.le_refl _) (Nat.le_refl _)
        · replace vc := vc.2 q
          refine go_iconst (v := 0) dX12_asksOf_128 rfl ?_
          refine go_goto 133 dX12_asksOf_129 rfl ?_
          refine go_iast dX12_asksOf_133 sh132 (by unfold vp_in; decide) ?_
          refine go_aload_n (x := 82) dX12_asksOf_134 rfl ?_
          refine go_getR (x := 132) dX12_asksOf_135 f12_163 sh82 (fun _ _ => rfl) (rf82_67 hR) ?_
          refine go_bipush (v := 8) dX12_asksOf_138 rfl ?_
          refine go_aload_n (x := 82) dX12_asksOf_140 rfl ?_
          refine go_iload_n (x := a1) dX12_asksOf_141 rfl ?_
          refine gvI1 MX12_trustOf dX12_asksOf_142 lX12_522 kX12_trustOf vX12_trustOf sh82 (by decide) rfl (Nat.le_of_ble_eq_true rfl) vc ?_
          intro v28 h28 vc
          obtain ⟨hR28, vc⟩ := vc
          replace hR := hR28.trans hR
          refine go_iast dX12_asksOf_145 sh132 (by unfold vp_in; decide) ?_
          exact go_vret dX12_asksOf_146 rfl vc rfl (Nat.le_refl _) (Nat.le_refl _)
set_option maxRecDepth 20000 in
theorem wX12_told_0 {p : Program} {l : Launch} {e : Env} {s : State} {m : MethodId} {args : Array Value} {below : List Frame} {meth : Method} {c : Code} {G : gG} {d : Nat} {Q : Option Value → gH → Prop} {h : gH} {lk sp : Nat} {cd : Option Nat} {a1 : Int32} (hR : h.2.2 = gRF lk sp cd) (hlk : lk = 30 ∨ lk = 67) (hsp : sp = 30 ∨ sp = 67)  (vc : (vp_in ((3 + a1)) 6 ∧ gg p l e s m args below meth c G (d + 1) MX12_told Q 14 [some (.ref 82), some (.int a1), some (.int (h.1 127 ((3 + a1) : Int32).toNatClampNeg)), none] [] (sI h 82 66 0))) : gg p l e s m args below meth c G (d + 1) MX12_told Q 0 [some (.ref 82), some (.int a1), none, none] [] h := by
  refine go_aload_n (x := 82) dX12_told_0 rfl ?_
  refine go_iconst (v := 0) dX12_told_1 rfl ?_
  refine go_putI dX12_told_2 f12_462 sh82 rfl rfl ?_
  refine go_aload_n (x := 82) dX12_told_5 rfl ?_
  refine go_getR (x := 127) dX12_told_6 f12_148 sh82 (fun _ _ => rfl) (rf82_54 hR) ?_
  refine go_iconst (v := 3) dX12_told_9 rfl ?_
  refine go_iload_n (x := a1) dX12_told_10 rfl ?_
  refine go_iadd dX12_told_11 ?_
  refine go_iald' (v := (h.1 127 ((3 + a1) : Int32).toNatClampNeg)) dX12_told_12 sh127 vc.1 rfl ?_
  have vc := vc.2
  refine go_istore_n dX12_told_13 (Nat.le_of_ble_eq_true rfl) ?_
  show gg p l e s m args below meth c G (d + 1) MX12_told Q 14 [some (.ref 82), some (.int a1), some (.int (h.1 127 ((3 + a1) : Int32).toNatClampNeg)), none] [] (sI h 82 66 0)
  exact vc
set_option maxRecDepth 20000 in
theorem wX12_told_14 {p : Program} {l : Launch} {e : Env} {s : State} {m : MethodId} {args : Array Value} {below : List Frame} {meth : Method} {c : Code} {G : gG} {d : Nat} {Q : Option Value → gH → Prop} {h : gH} {lk sp : Nat} {cd : Option Nat} {x1 : Int32} {x2 : Int32} (hR : h.2.2 = gRF lk sp cd) (hlk : lk = 30 ∨ lk = 67) (hsp : sp = 30 ∨ sp = 67)  (vc : (vp_in ((3 + x1)) 6 ∧ (((h.1 128 ((3 + x1) : Int32).toNatClampNeg) ≤ x2 → ((0 ≤ (lg_cmp (h.2.1 131 0) 0) → (((lg_cmp (h.2.1 131 0) 99) ≤ 0 → Q (some (.int ((h.2.1 131 0) : Int64).toInt32)) h) ∧ (¬ (lg_cmp (h.2.1 131 0) 99) ≤ 0 → Q (some (.int 99)) h))) ∧ (¬ 0 ≤ (lg_cmp (h.2.1 131 0) 0) → Q (some (.int 0)) h))) ∧ (¬ (h.1 128 ((3 + x1) : Int32).toNatClampNeg) ≤ x2 → (vp_in ((1600 + x2)) 3200 ∧ (((h.1 129 ((1600 + x2) : Int32).toNatClampNeg) < 1000 → gC l G d MX12_isIn [.long ((h.1 129 ((1600 + x2) : Int32).toNatClampNeg) : Int32).toInt64, .long 7, .long 16] h (rI fun v1 h1 => h1.2.2 = (h).2.2 ∧ ((v1 = 0 → gC l G d MX12_joins [.ref 82, .int (h.1 129 ((1600 + x2) : Int32).toNatClampNeg)] h1 (rV fun h2 => h2.2.2 = (h1).2.2 ∧ gg p l e s m args below meth c G (d + 1) MX12_told Q 14 [some (.ref 82), some (.int x1), some (.int (x2 + 1)), none] [] h2)) ∧ (¬ v1 = 0 → (vp_in (((h.1 129 ((1600 + x2) : Int32).toNatClampNeg) - 7)) 10 ∧ gC l G d MX12_puts [.ref 82, .long ((h1.1 132 (((h.1 129 ((1600 + x2) : Int32).toNatClampNeg) - 7) : Int32).toNatClampNeg) : Int32).toInt64] h1 (rV fun h3 => h3.2.2 = (h1).2.2 ∧ gg p l e s m args below meth c G (d + 1) MX12_told Q 14 [some (.ref 82), some (.int x1), some (.int (x2 + 1)), none] [] h3)))))) ∧ (¬ (h.1 129 ((1600 + x2) : Int32).toNatClampNeg) < 1000 → gC l G d MX12_puts [.ref 82, .long (((h.1 129 ((1600 + x2) : Int32).toNatClampNeg) - 1000) : Int32).toInt64] h (rV fun h4 => h4.2.2 = (h).2.2 ∧ gg p l e s m args below meth c G (d + 1) MX12_told Q 14 [some (.ref 82), some (.int x1), some (.int (x2 + 1)), none] [] h4)))))))) : gg p l e s m args below meth c G (d + 1) MX12_told Q 14 [some (.ref 82), some (.int x1), some (.int x2), none] [] h := by
  refine go_iload_n (x := x2) dX12_told_14 rfl ?_
  refine go_aload_n (x := 82) dX12_told_15 rfl ?_
  refine go_getR (x := 128) dX12_told_16 f12_151 sh82 (fun _ _ => rfl) (rf82_55 hR) ?_
  refine go_iconst (v := 3) dX12_told_19 rfl ?_
  refine go_iload_n (x := x1) dX12_told_20 rfl ?_
  refine go_iadd dX12_told_21 ?_
  refine go_iald' (v := (h.1 128 ((3 + x1) : Int32).toNatClampNeg)) dX12_told_22 sh128 vc.1 rfl ?_
  have vc := vc.2
  refine go_icmp_ge 99 dX12_told_23 rfl (fun q => ?_) (fun q => ?_)
  · replace vc := vc.1 q
    refine go_aload_n (x := 82) dX12_told_99 rfl ?_
    refine go_getR (x := 131) dX12_told_100 f12_160 sh82 (fun _ _ => rfl) (rf82_65 hR) ?_
    refine go_iconst (v := 0) dX12_told_103 rfl ?_
    refine go_lald' (v := (h.2.1 131 0)) dX12_told_104 sh131 (by unfold vp_in; decide) rfl ?_
    refine go_lconst (v := 0) dX12_told_105 rfl ?_
    refine go_lcmp dX12_told_106 ?_
    refine go_if_ge 114 dX12_told_107 rfl (fun q => ?_) (fun q => ?_)
    · replace vc := vc.1 q
      refine go_aload_n (x := 82) dX12_told_114 rfl ?_
      refine go_getR (x := 131) dX12_told_115 f12_160 sh82 (fun _ _ => rfl) (rf82_65 hR) ?_
      refine go_iconst (v := 0) dX12_told_118 rfl ?_
      refine go_lald' (v := (h.2.1 131 0)) dX12_told_119 sh131 (by unfold vp_in; decide) rfl ?_
      refine go_ldc2 (v := 99) dX12_told_120 nX12_532 ?_
      refine go_lcmp dX12_told_123 ?_
      refine go_if_le 132 dX12_told_124 rfl (fun q => ?_) (fun q => ?_)
      · replace vc := vc.1 q
        refine go_aload_n (x := 82) dX12_told_132 rfl ?_
        refine go_getR (x := 131) dX12_told_133 f12_160 sh82 (fun _ _ => rfl) (rf82_65 hR) ?_
        refine go_iconst (v := 0) dX12_told_136 rfl ?_
        refine go_lald' (v := (h.2.1 131 0)) dX12_told_137 sh131 (by unfold vp_in; decide) rfl ?_
        refine go_l2i dX12_told_138 ?_
        exact go_iret dX12_told_139 rfl vc rfl (Nat.le_refl _) (Nat.le_refl _)
      · replace vc := vc.2 q
        refine go_bipush (v := 99) dX12_told_127 rfl ?_
        refine go_goto 139 dX12_told_129 rfl ?_
        exact go_iret dX12_told_139 rfl vc rfl (Nat.le_refl _) (Nat.le_refl _)
    · replace vc := vc.2 q
      refine go_iconst (v := 0) dX12_told_110 rfl ?_
      refine go_goto 139 dX12_told_111 rfl ?_
      exact go_iret dX12_told_139 rfl vc rfl (Nat.le_refl _) (Nat.le_refl _)
  · replace vc := vc.2 q
    refine go_aload_n (x := 82) dX12_told_26 rfl ?_
    refine go_getR (x := 129) dX12_told_27 f12_154 sh82 (fun _ _ => rfl) (rf82_59 hR) ?_
    refine go_sipush (v := 1600) dX12_told_30 rfl ?_
    refine go_iload_n (x := x2) dX12_told_33 rfl ?_
    refine go_iadd dX12_told_34 ?_
    refine go_iald' (v := (h.1 129 ((1600 + x2) : Int32).toNatClampNeg)) dX12_told_35 sh129 vc.1 rfl ?_
    have vc := vc.2
    refine go_istore_n dX12_told_36 (Nat.le_of_ble_eq_true rfl) ?_
    show gg p l e s m args below meth c G (d + 1) MX12_told Q 37 [some (.ref 82), some (.int x1), some (.int x2), some (.int (h.1 129 ((1600 + x2) : Int32).toNatClampNeg))] [] h
    refine go_iload_n (x := (h.1 129 ((1600 + x2) : Int32).toNatClampNeg)) dX12_told_37 rfl ?_
    refine go_sipush (v := 1000) dX12_told_38 rfl ?_
    refine go_icmp_lt 57 dX12_told_41 rfl (fun q => ?_) (fun q => ?_)
    · replace vc := vc.1 q
      refine go_iload_n (x := (h.1 129 ((1600 + x2) : Int32).toNatClampNeg)) dX12_told_57 rfl ?_
      refine go_i2l dX12_told_58 ?_
      refine go_ldc2 (v := 7) dX12_told_59 nX12_525 ?_
      refine go_ldc2 (v := 16) dX12_told_62 nX12_527 ?_
      refine gsI3 MX12_isIn dX12_told_65 lX12_321 kX12_isIn sX12_isIn (Nat.le_of_ble_eq_true rfl) vc ?_
      intro v1 h1 vc
      obtain ⟨hR1, vc⟩ := vc
      replace hR := hR1.trans hR
      refine go_if_eq 88 dX12_told_68 rfl (fun q => ?_) (fun q => ?_)
      · replace vc := vc.1 q
        refine go_aload_n (x := 82) dX12_told_88 rfl ?_
        refine go_iload_n (x := (h.1 129 ((1600 + x2) : Int32).toNatClampNeg)) dX12_told_89 rfl ?_
        refine gvV1 MX12_joins dX12_told_90 lX12_529 kX12_joins vX12_joins sh82 (by decide) rfl (Nat.le_of_ble_eq_true rfl) vc ?_
        intro h2 vc
        obtain ⟨hR2, vc⟩ := vc
        replace hR := hR2.trans hR
        refine go_iinc (x := x2) dX12_told_93 rfl ?_
        show gg p l e s m args below meth c G (d + 1) MX12_told Q 96 [some (.ref 82), some (.int x1), some (.int (x2 + 1)), some (.int (h.1 129 ((1600 + x2) : Int32).toNatClampNeg))] [] h2
        refine go_goto 14 dX12_told_96 rfl ?_
        refine go_weak (ls' := [some (.ref 82), some (.int x1), some (.int (x2 + 1)), none]) ?_ vc
        exact (⟨rfl, ⟨rfl, ⟨rfl, trivial⟩⟩⟩)
      · replace vc := vc.2 q
        refine go_aload_n (x := 82) dX12_told_71 rfl ?_
        refine go_aload_n (x := 82) dX12_told_72 rfl ?_
        refine go_getR (x := 132) dX12_told_73 f12_163 sh82 (fun _ _ => rfl) (rf82_67 hR) ?_
        refine go_iload_n (x := (h.1 129 ((1600 + x2) : Int32).toNatClampNeg)) dX12_told_76 rfl ?_
        refine go_bipush (v := 7) dX12_told_77 rfl ?_
        refine go_isub dX12_told_79 ?_
        refine go_iald' (v := (h1.1 132 (((h.1 129 ((1600 + x2) : Int32).toNatClampNeg) - 7) : Int32).toNatClampNeg)) dX12_told_80 sh132 vc.1 rfl ?_
        have vc := vc.2
        refine go_i2l dX12_told_81 ?_
        refine gvV1 MX12_puts dX12_told_82 lX12_469 kX12_puts vX12_puts sh82 (by decide) rfl (Nat.le_of_ble_eq_true rfl) vc ?_
        intro h3 vc
        obtain ⟨hR3, vc⟩ := vc
        replace hR := hR3.trans hR
        refine go_goto 93 dX12_told_85 rfl ?_
        refine go_iinc (x := x2) dX12_told_93 rfl ?_
        show gg p l e s m args below meth c G (d + 1) MX12_told Q 96 [some (.ref 82), some (.int x1), some (.int (x2 + 1)), some (.int (h.1 129 ((1600 + x2) : Int32).toNatClampNeg))] [] h3
        refine go_goto 14 dX12_told_96 rfl ?_
        refine go_weak (ls' := [some (.ref 82), some (.int x1), some (.int (x2 + 1)), none]) ?_ vc
        exact (⟨rfl, ⟨rfl, ⟨rfl, trivial⟩⟩⟩)
    · replace vc := vc.2 q
      refine go_aload_n (x := 82) dX12_told_44 rfl ?_
      refine go_iload_n (x := (h.1 129 ((1600 + x2) : Int32).toNatClampNeg)) dX12_told_45 rfl ?_
      refine go_sipush (v := 1000) dX12_told_46 rfl ?_
      refine go_isub dX12_told_49 ?_
      refine go_i2l dX12_told_50 ?_
      refine gvV1 MX12_puts dX12_told_51 lX12_469 kX12_puts vX12_puts sh82 (by decide) rfl (Nat.le_of_ble_eq_true rfl) vc ?_
      intro h4 vc
      obtain ⟨hR4, vc⟩ := vc
      replace hR := hR4.trans hR
      refine go_goto 93 dX12_told_54 rfl ?_
      refine go_iinc (x := x2) dX12_told_93 rfl ?_
      show gg p l e s m args below meth c G (d + 1) MX12_told Q 96 [some (.ref 82), some (.int x1), some (.int (x2 + 1)), some (.int (h.1 129 ((1600 + x2) : Int32).toNatClampNeg))] [] h4
      refine go_goto 14 dX12_told_96 rfl ?_
      refine go_weak (ls' := [some (.ref 82), some (.int x1), some (.int (x2 + 1)), none]) ?_ vc
      exact (⟨rfl, ⟨rfl, ⟨rfl, trivial⟩⟩⟩)
set_option maxRecDepth 20000 in
theorem wX12_dreadOf_0 {p : Program} {l : Launch} {e : Env} {s : State} {m : MethodId} {args : Array Value} {below : List Frame} {meth : Method} {c : Code} {G : gG} {d : Nat} {Q : Option Value → gH → Prop} {h : gH} {lk sp : Nat} {cd : Option Nat} {a1 : Int32} {a2 : Int32} {a3 : Int32} (hR : h.2.2 = gRF lk sp cd) (hlk : lk = 30 ∨ lk = 67) (hsp : sp = 30 ∨ sp = 67)  (vc : ((¬ (h.1 127 3) = (-1) → gC l G d MX12_asksOf [.ref 82, .int a1, .int a2, .int a3] h (rV fun h1 => h1.2.2 = (h).2.2 ∧ gC l G d MX12_told [.ref 82, .int 0] h1 (rI fun v2 h2 => h2.2.2 = (h1).2.2 ∧ Q (some (.int v2)) h2))) ∧ ((h.1 127 3) = (-1) → gC l G d MX12_depthOf [.ref 82, .int a2] h (rI fun v3 h3 => h3.2.2 = (h).2.2 ∧ Q (some (.int (10 * v3))) h3)))) : gg p l e s m args below meth c G (d + 1) MX12_dreadOf Q 0 [some (.ref 82), some (.int a1), some (.int a2), some (.int a3)] [] h := by
  refine go_aload_n (x := 82) dX12_dreadOf_0 rfl ?_
  refine go_getR (x := 127) dX12_dreadOf_1 f12_148 sh82 (fun _ _ => rfl) (rf82_54 hR) ?_
  refine go_iconst (v := 3) dX12_dreadOf_4 rfl ?_
  refine go_iald' (v := (h.1 127 3)) dX12_dreadOf_5 sh127 (by unfold vp_in; decide) rfl ?_
  refine go_iconst (v := (-1)) dX12_dreadOf_6 rfl ?_
  refine go_icmp_ne 19 dX12_dreadOf_7 rfl (fun q => ?_) (fun q => ?_)
  · replace vc := vc.1 q
    refine go_aload_n (x := 82) dX12_dreadOf_19 rfl ?_
    refine go_iload_n (x := a1) dX12_dreadOf_20 rfl ?_
    refine go_iload_n (x := a2) dX12_dreadOf_21 rfl ?_
    refine go_iload_n (x := a3) dX12_dreadOf_22 rfl ?_
    refine gvV3 MX12_asksOf dX12_dreadOf_23 lX12_534 kX12_asksOf vX12_asksOf sh82 (by decide) rfl (Nat.le_of_ble_eq_true rfl) vc ?_
    intro h1 vc
    obtain ⟨hR1, vc⟩ := vc
    replace hR := hR1.trans hR
    refine go_aload_n (x := 82) dX12_dreadOf_26 rfl ?_
    refine go_iconst (v := 0) dX12_dreadOf_27 rfl ?_
    refine gvI1 MX12_told dX12_dreadOf_28 lX12_538 kX12_told vX12_told sh82 (by decide) rfl (Nat.le_of_ble_eq_true rfl) vc ?_
    intro v2 h2 vc
    obtain ⟨hR2, vc⟩ := vc
    replace hR := hR2.trans hR
    exact go_iret dX12_dreadOf_31 rfl vc rfl (Nat.le_refl _) (Nat.le_refl _)
  · replace vc := vc.2 q
    refine go_bipush (v := 10) dX12_dreadOf_10 rfl ?_
    refine go_aload_n (x := 82) dX12_dreadOf_12 rfl ?_
    refine go_iload_n (x := a2) dX12_dreadOf_13 rfl ?_
    refine gvI1 MX12_depthOf dX12_dreadOf_14 lX12_507 kX12_depthOf vX12_depthOf sh82 (by decide) rfl (Nat.le_of_ble_eq_true rfl) vc ?_
    intro v3 h3 vc
    obtain ⟨hR3, vc⟩ := vc
    replace hR := hR3.trans hR
    refine go_imul dX12_dreadOf_17 ?_
    exact go_iret dX12_dreadOf_18 rfl vc rfl (Nat.le_refl _) (Nat.le_refl _)
set_option maxRecDepth 20000 in
theorem wX12_wouldGo_0 {p : Program} {l : Launch} {e : Env} {s : State} {m : MethodId} {args : Array Value} {below : List Frame} {meth : Method} {c : Code} {G : gG} {d : Nat} {Q : Option Value → gH → Prop} {h : gH} {lk sp : Nat} {cd : Option Nat} {a1 : Int32} {a2 : Int32} {a3 : Int32} (hR : h.2.2 = gRF lk sp cd) (hlk : lk = 30 ∨ lk = 67) (hsp : sp = 30 ∨ sp = 67)  (vc : gC l G d MX12_dreadOf [.ref 82, .int a1, .int a2, .int a3] h (rI fun v1 h1 => h1.2.2 = (h).2.2 ∧ gC l G d MX12_trustOf [.ref 82, .int a1] h1 (rI fun v2 h2 => h2.2.2 = (h1).2.2 ∧ ((v2 < v1 → Q (some (.int 0)) h2) ∧ (¬ v2 < v1 → Q (some (.int 1)) h2))))) : gg p l e s m args below meth c G (d + 1) MX12_wouldGo Q 0 [some (.ref 82), some (.int a1), some (.int a2), some (.int a3)] [] h := by
  refine go_aload_n (x := 82) dX12_wouldGo_0 rfl ?_
  refine go_iload_n (x := a1) dX12_wouldGo_1 rfl ?_
  refine go_iload_n (x := a2) dX12_wouldGo_2 rfl ?_
  refine go_iload_n (x := a3) dX12_wouldGo_3 rfl ?_
  refine gvI3 MX12_dreadOf dX12_wouldGo_4 lX12_541 kX12_dreadOf vX12_dreadOf sh82 (by decide) rfl (Nat.le_of_ble_eq_true rfl) vc ?_
  intro v1 h1 vc
  obtain ⟨hR1, vc⟩ := vc
  replace hR := hR1.trans hR
  refine go_aload_n (x := 82) dX12_wouldGo_7 rfl ?_
  refine go_iload_n (x := a1) dX12_wouldGo_8 rfl ?_
  refine gvI1 MX12_trustOf dX12_wouldGo_9 lX12_522 kX12_trustOf vX12_trustOf sh82 (by decide) rfl (Nat.le_of_ble_eq_true rfl) vc ?_
  intro v2 h2 vc
  obtain ⟨hR2, vc⟩ := vc
  replace hR := hR2.trans hR
  refine go_icmp_gt 19 dX12_wouldGo_12 rfl (fun q => ?_) (fun q => ?_)
  · replace vc := vc.1 q
    refine go_iconst (v := 0) dX12_wouldGo_19 rfl ?_
    exact go_zret dX12_wouldGo_20 rfl (by decide) vc rfl (Nat.le_refl _) (Nat.le_refl _)
  · replace vc := vc.2 q
    refine go_iconst (v := 1) dX12_wouldGo_15 rfl ?_
    refine go_goto 20 dX12_wouldGo_16 rfl ?_
    exact go_zret dX12_wouldGo_20 rfl (by decide) vc rfl (Nat.le_refl _) (Nat.le_refl _)
set_option maxRecDepth 20000 in
theorem wX12_learnt_0 {p : Program} {l : Launch} {e : Env} {s : State} {m : MethodId} {args : Array Value} {below : List Frame} {meth : Method} {c : Code} {G : gG} {d : Nat} {Q : Option Value → gH → Prop} {h : gH} {lk sp : Nat} {cd : Option Nat} {a1 : Int32} {a2 : Int32} {a3 : Int32} {a4 : Int32} (hR : h.2.2 = gRF lk sp cd) (hlk : lk = 30 ∨ lk = 67) (hsp : sp = 30 ∨ sp = 67)  (vc : ((a4 = 0 → (vp_in ((3 + 2)) 6 ∧ ((¬ (h.1 127 ((3 + 2) : Int32).toNatClampNeg) = (-1) → gC l G d MX12_dreadOf [.ref 82, .int a1, .int a2, .int a3] h (rI fun v1 h1 => h1.2.2 = (h).2.2 ∧ gC l G d MX12_asksOf [.ref 82, .int a1, .int a2, .int a3] h1 (rV fun h2 => h2.2.2 = (h1).2.2 ∧ gC l G d MX12_told [.ref 82, .int 2] (sI h2 132 9 v1) (rI fun v3 h3 => h3.2.2 = ((sI h2 132 9 v1)).2.2 ∧ Q (some (.int v3)) h3)))) ∧ ((h.1 127 ((3 + 2) : Int32).toNatClampNeg) = (-1) → gC l G d MX12_trustOf [.ref 82, .int a1] h (rI fun v4 h4 => h4.2.2 = (h).2.2 ∧ Q (some (.int v4)) h4))))) ∧ (¬ a4 = 0 → (vp_in ((3 + 1)) 6 ∧ ((¬ (h.1 127 ((3 + 1) : Int32).toNatClampNeg) = (-1) → gC l G d MX12_dreadOf [.ref 82, .int a1, .int a2, .int a3] h (rI fun v5 h5 => h5.2.2 = (h).2.2 ∧ gC l G d MX12_asksOf [.ref 82, .int a1, .int a2, .int a3] h5 (rV fun h6 => h6.2.2 = (h5).2.2 ∧ gC l G d MX12_told [.ref 82, .int 1] (sI h6 132 9 v5) (rI fun v7 h7 => h7.2.2 = ((sI h6 132 9 v5)).2.2 ∧ Q (some (.int v7)) h7)))) ∧ ((h.1 127 ((3 + 1) : Int32).toNatClampNeg) = (-1) → gC l G d MX12_trustOf [.ref 82, .int a1] h (rI fun v8 h8 => h8.2.2 = (h).2.2 ∧ Q (some (.int v8)) h8))))))) : gg p l e s m args below meth c G (d + 1) MX12_learnt Q 0 [some (.ref 82), some (.int a1), some (.int a2), some (.int a3), some (.int a4), none, none] [] h := by
  refine go_iload (x := a4) dX12_learnt_0 rfl ?_
  refine go_if_eq 9 dX12_learnt_2 rfl (fun q => ?_) (fun q => ?_)
  · replace vc := vc.1 q
    refine go_iconst (v := 2) dX12_learnt_9 rfl ?_
    refine go_istore dX12_learnt_10 (Nat.le_of_ble_eq_true rfl) ?_
    show gg p l e s m args below meth c G (d + 1) MX12_learnt Q 12 [some (.ref 82), some (.int a1), some (.int a2), some (.int a3), some (.int a4), some (.int 2), none] [] h
    refine go_aload_n (x := 82) dX12_learnt_12 rfl ?_
    refine go_getR (x := 127) dX12_learnt_13 f12_148 sh82 (fun _ _ => rfl) (rf82_54 hR) ?_
    refine go_iconst (v := 3) dX12_learnt_16 rfl ?_
    refine go_iload (x := 2) dX12_learnt_17 rfl ?_
    refine go_iadd dX12_learnt_19 ?_
    refine go_iald' (v := (h.1 127 ((3 + 2) : Int32).toNatClampNeg)) dX12_learnt_20 sh127 vc.1 rfl ?_
    have vc := vc.2
    refine go_iconst (v := (-1)) dX12_learnt_21 rfl ?_
    refine go_icmp_ne 31 dX12_learnt_22 rfl (fun q => ?_) (fun q => ?_)
    · replace vc := vc.1 q
      refine go_aload_n (x := 82) dX12_learnt_31 rfl ?_
      refine go_iload_n (x := a1) dX12_learnt_32 rfl ?_
      refine go_iload_n (x := a2) dX12_learnt_33 rfl ?_
      refine go_iload_n (x := a3) dX12_learnt_34 rfl ?_
      refine gvI3 MX12_dreadOf dX12_learnt_35 lX12_541 kX12_dreadOf vX12_dreadOf sh82 (by decide) rfl (Nat.le_of_ble_eq_true rfl) vc ?_
      intro v1 h1 vc
      obtain ⟨hR1, vc⟩ := vc
      replace hR := hR1.trans hR
      refine go_istore dX12_learnt_38 (Nat.le_of_ble_eq_true rfl) ?_
      show gg p l e s m args below meth c G (d + 1) MX12_learnt Q 40 [some (.ref 82), some (.int a1), some (.int a2), some (.int a3), some (.int a4), some (.int 2), some (.int v1)] [] h1
      refine go_aload_n (x := 82) dX12_learnt_40 rfl ?_
      refine go_iload_n (x := a1) dX12_learnt_41 rfl ?_
      refine go_iload_n (x := a2) dX12_learnt_42 rfl ?_
      refine go_iload_n (x := a3) dX12_learnt_43 rfl ?_
      refine gvV3 MX12_asksOf dX12_learnt_44 lX12_534 kX12_asksOf vX12_asksOf sh82 (by decide) rfl (Nat.le_of_ble_eq_true rfl) vc ?_
      intro h2 vc
      obtain ⟨hR2, vc⟩ := vc
      replace hR := hR2.trans hR
      refine go_aload_n (x := 82) dX12_learnt_47 rfl ?_
      refine go_getR (x := 132) dX12_learnt_48 f12_163 sh82 (fun _ _ => rfl) (rf82_67 hR) ?_
      refine go_bipush (v := 9) dX12_learnt_51 rfl ?_
      refine go_iload (x := v1) dX12_learnt_53 rfl ?_
      refine go_iast dX12_learnt_55 sh132 (by unfold vp_in; decide) ?_
      refine go_aload_n (x := 82) dX12_learnt_56 rfl ?_
      refine go_iload (x := 2) dX12_learnt_57 rfl ?_
      refine gvI1 MX12_told dX12_learnt_59 lX12_538 kX12_told vX12_told sh82 (by decide) rfl (Nat.le_of_ble_eq_true rfl) vc ?_
      intro v3 h3 vc
      obtain ⟨hR3, vc⟩ := vc
      replace hR := hR3.trans hR
      exact go_iret dX12_learnt_62 rfl vc rfl (Nat.le_refl _) (Nat.le_refl _)
    · replace vc := vc.2 q
      refine go_aload_n (x := 82) dX12_learnt_25 rfl ?_
      refine go_iload_n (x := a1) dX12_learnt_26 rfl ?_
      refine gvI1 MX12_trustOf dX12_learnt_27 lX12_522 kX12_trustOf vX12_trustOf sh82 (by decide) rfl (Nat.le_of_ble_eq_true rfl) vc ?_
      intro v4 h4 vc
      obtain ⟨hR4, vc⟩ := vc
      replace hR := hR4.trans hR
      exact go_iret dX12_learnt_30 rfl vc rfl (Nat.le_refl _) (Nat.le_refl _)
  · replace vc := vc.2 q
    refine go_iconst (v := 1) dX12_learnt_5 rfl ?_
    refine go_goto 10 dX12_learnt_6 rfl ?_
    refine go_istore dX12_learnt_10 (Nat.le_of_ble_eq_true rfl) ?_
    show gg p l e s m args below meth c G (d + 1) MX12_learnt Q 12 [some (.ref 82), some (.int a1), some (.int a2), some (.int a3), some (.int a4), some (.int 1), none] [] h
    refine go_aload_n (x := 82) dX12_learnt_12 rfl ?_
    refine go_getR (x := 127) dX12_learnt_13 f12_148 sh82 (fun _ _ => rfl) (rf82_54 hR) ?_
    refine go_iconst (v := 3) dX12_learnt_16 rfl ?_
    refine go_iload (x := 1) dX12_learnt_17 rfl ?_
    refine go_iadd dX12_learnt_19 ?_
    refine go_iald' (v := (h.1 127 ((3 + 1) : Int32).toNatClampNeg)) dX12_learnt_20 sh127 vc.1 rfl ?_
    have vc := vc.2
    refine go_iconst (v := (-1)) dX12_learnt_21 rfl ?_
    refine go_icmp_ne 31 dX12_learnt_22 rfl (fun q => ?_) (fun q => ?_)
    · replace vc := vc.1 q
      refine go_aload_n (x := 82) dX12_learnt_31 rfl ?_
      refine go_iload_n (x := a1) dX12_learnt_32 rfl ?_
      refine go_iload_n (x := a2) dX12_learnt_33 rfl ?_
      refine go_iload_n (x := a3) dX12_learnt_34 rfl ?_
      refine gvI3 MX12_dreadOf dX12_learnt_35 lX12_541 kX12_dreadOf vX12_dreadOf sh82 (by decide) rfl (Nat.le_of_ble_eq_true rfl) vc ?_
      intro v5 h5 vc
      obtain ⟨hR5, vc⟩ := vc
      replace hR := hR5.trans hR
      refine go_istore dX12_learnt_38 (Nat.le_of_ble_eq_true rfl) ?_
      show gg p l e s m args below meth c G (d + 1) MX12_learnt Q 40 [some (.ref 82), some (.int a1), some (.int a2), some (.int a3), some (.int a4), some (.int 1), some (.int v5)] [] h5
      refine go_aload_n (x := 82) dX12_learnt_40 rfl ?_
      refine go_iload_n (x := a1) dX12_learnt_41 rfl ?_
      refine go_iload_n (x := a2) dX12_learnt_42 rfl ?_
      refine go_iload_n (x := a3) dX12_learnt_43 rfl ?_
      refine gvV3 MX12_asksOf dX12_learnt_44 lX12_534 kX12_asksOf vX12_asksOf sh82 (by decide) rfl (Nat.le_of_ble_eq_true rfl) vc ?_
      intro h6 vc
      obtain ⟨hR6, vc⟩ := vc
      replace hR := hR6.trans hR
      refine go_aload_n (x := 82) dX12_learnt_47 rfl ?_
      refine go_getR (x := 132) dX12_learnt_48 f12_163 sh82 (fun _ _ => rfl) (rf82_67 hR) ?_
      refine go_bipush (v := 9) dX12_learnt_51 rfl ?_
      refine go_iload (x := v5) dX12_learnt_53 rfl ?_
      refine go_iast dX12_learnt_55 sh132 (by unfold vp_in; decide) ?_
      refine go_aload_n (x := 82) dX12_learnt_56 rfl ?_
      refine go_iload (x := 1) dX12_learnt_57 rfl ?_
      refine gvI1 MX12_told dX12_learnt_59 lX12_538 kX12_told vX12_told sh82 (by decide) rfl (Nat.le_of_ble_eq_true rfl) vc ?_
      intro v7 h7 vc
      obtain ⟨hR7, vc⟩ := vc
      replace hR := hR7.trans hR
      exact go_iret dX12_learnt_62 rfl vc rfl (Nat.le_refl _) (Nat.le_refl _)
    · replace vc := vc.2 q
      refine go_aload_n (x := 82) dX12_learnt_25 rfl ?_
      refine go_iload_n (x := a1) dX12_learnt_26 rfl ?_
      refine gvI1 MX12_trustOf dX12_learnt_27 lX12_522 kX12_trustOf vX12_trustOf sh82 (by decide) rfl (Nat.le_of_ble_eq_true rfl) vc ?_
      intro v8 h8 vc
      obtain ⟨hR8, vc⟩ := vc
      replace hR := hR8.trans hR
      exact go_iret dX12_learnt_30 rfl vc rfl (Nat.le_refl _) (Nat.le_refl _)
set_option maxRecDepth 20000 in
theorem wX12_isKept_0 {p : Program} {l : Launch} {e : Env} {s : State} {m : MethodId} {args : Array Value} {below : List Frame} {meth : Method} {c : Code} {G : gG} {d : Nat} {Q : Option Value → gH → Prop} {h : gH} {lk sp : Nat} {cd : Option Nat} {a1 : Int32} {a2 : Int32} {a3 : Int32} (hR : h.2.2 = gRF lk sp cd) (hlk : lk = 30 ∨ lk = 67) (hsp : sp = 30 ∨ sp = 67)  (vc : ((¬ (h.1 133 26) = 40 → (vp_in (((27 + (4 * ((h.1 133 26) + 1))) - 4)) 187 ∧ (vp_in ((((27 + (4 * ((h.1 133 26) + 1))) - 4) + 1)) 187 ∧ (vp_in ((((27 + (4 * ((h.1 133 26) + 1))) - 4) + 2)) 187 ∧ ((a3 = 0 → (vp_in ((((27 + (4 * ((h.1 133 26) + 1))) - 4) + 3)) 187 ∧ Q none (sI (sI (sI (sI (sI h 133 26 ((h.1 133 26) + 1)) 133 (((27 + (4 * ((h.1 133 26) + 1))) - 4) : Int32).toNatClampNeg (h.1 133 0)) 133 ((((27 + (4 * ((h.1 133 26) + 1))) - 4) + 1) : Int32).toNatClampNeg a1) 133 ((((27 + (4 * ((h.1 133 26) + 1))) - 4) + 2) : Int32).toNatClampNeg a2) 133 ((((27 + (4 * ((h.1 133 26) + 1))) - 4) + 3) : Int32).toNatClampNeg 0))) ∧ (¬ a3 = 0 → (vp_in ((((27 + (4 * ((h.1 133 26) + 1))) - 4) + 3)) 187 ∧ Q none (sI (sI (sI (sI (sI h 133 26 ((h.1 133 26) + 1)) 133 (((27 + (4 * ((h.1 133 26) + 1))) - 4) : Int32).toNatClampNeg (h.1 133 0)) 133 ((((27 + (4 * ((h.1 133 26) + 1))) - 4) + 1) : Int32).toNatClampNeg a1) 133 ((((27 + (4 * ((h.1 133 26) + 1))) - 4) + 2) : Int32).toNatClampNeg a2) 133 ((((27 + (4 * ((h.1 133 26) + 1))) - 4) + 3) : Int32).toNatClampNeg 1)))))))) ∧ ((h.1 133 26) = 40 → gg p l e s m args below meth c G d MX12_isKept Q 16 [some (.ref 82), some (.int a1), some (.int a2), some (.int a3), some (.int 27)] [] h))) : gg p l e s m args below meth c G d MX12_isKept Q 0 [some (.ref 82), some (.int a1), some (.int a2), some (.int a3), none] [] h := by
  refine go_aload_n (x := 82) dX12_isKept_0 rfl ?_
  refine go_getR (x := 133) dX12_isKept_1 f12_166 sh82 (fun _ _ => rfl) (rf82_68 hR) ?_
  refine go_bipush (v := 26) dX12_isKept_4 rfl ?_
  refine go_iald' (v := (h.1 133 26)) dX12_isKept_6 sh133 (by unfold vp_in; decide) rfl ?_
  refine go_bipush (v := 40) dX12_isKept_7 rfl ?_
  refine go_icmp_ne 49 dX12_isKept_9 rfl (fun q => ?_) (fun q => ?_)
  · replace vc := vc.1 q
    refine go_aload_n (x := 82) dX12_isKept_49 rfl ?_
    refine go_getR (x := 133) dX12_isKept_50 f12_166 sh82 (fun _ _ => rfl) (rf82_68 hR) ?_
    refine go_bipush (v := 26) dX12_isKept_53 rfl ?_
    refine go_dup2 dX12_isKept_55 rfl rfl ?_
    refine go_iald' (v := (h.1 133 26)) dX12_isKept_56 sh133 (by unfold vp_in; decide) rfl ?_
    refine go_iconst (v := 1) dX12_isKept_57 rfl ?_
    refine go_iadd dX12_isKept_58 ?_
    refine go_iast dX12_isKept_59 sh133 (by unfold vp_in; decide) ?_
    refine go_bipush (v := 27) dX12_isKept_60 rfl ?_
    refine go_iconst (v := 4) dX12_isKept_62 rfl ?_
    refine go_aload_n (x := 82) dX12_isKept_63 rfl ?_
    refine go_getR (x := 133) dX12_isKept_64 f12_166 sh82 (fun _ _ => rfl) (rf82_68 hR) ?_
    refine go_bipush (v := 26) dX12_isKept_67 rfl ?_
    refine go_iald' (v := ((h.1 133 26) + 1)) dX12_isKept_69 sh133 (by unfold vp_in; decide) rfl ?_
    refine go_imul dX12_isKept_70 ?_
    refine go_iadd dX12_isKept_71 ?_
    refine go_iconst (v := 4) dX12_isKept_72 rfl ?_
    refine go_isub dX12_isKept_73 ?_
    refine go_istore dX12_isKept_74 (Nat.le_of_ble_eq_true rfl) ?_
    show gg p l e s m args below meth c G d MX12_isKept Q 76 [some (.ref 82), some (.int a1), some (.int a2), some (.int a3), some (.int ((27 + (4 * ((h.1 133 26) + 1))) - 4))] [] (sI h 133 26 ((h.1 133 26) + 1))
    refine go_aload_n (x := 82) dX12_isKept_76 rfl ?_
    refine go_getR (x := 133) dX12_isKept_77 f12_166 sh82 (fun _ _ => rfl) (rf82_68 hR) ?_
    refine go_iload (x := ((27 + (4 * ((h.1 133 26) + 1))) - 4)) dX12_isKept_80 rfl ?_
    refine go_aload_n (x := 82) dX12_isKept_82 rfl ?_
    refine go_getR (x := 133) dX12_isKept_83 f12_166 sh82 (fun _ _ => rfl) (rf82_68 hR) ?_
    refine go_iconst (v := 0) dX12_isKept_86 rfl ?_
    refine go_iald' (v := (h.1 133 0)) dX12_isKept_87 sh133 (by unfold vp_in; decide) rfl ?_
    refine go_iast dX12_isKept_88 sh133 vc.1 ?_
    have vc := vc.2
    show gg p l e s m args below meth c G d MX12_isKept Q 89 [some (.ref 82), some (.int a1), some (.int a2), some (.int a3), some (.int ((27 + (4 * ((h.1 133 26) + 1))) - 4))] [] (sI (sI h 133 26 ((h.1 133 26) + 1)) 133 (((27 + (4 * ((h.1 133 26) + 1))) - 4) : Int32).toNatClampNeg (h.1 133 0))
    refine go_aload_n (x := 82) dX12_isKept_89 rfl ?_
    refine go_getR (x := 133) dX12_isKept_90 f12_166 sh82 (fun _ _ => rfl) (rf82_68 hR) ?_
    refine go_iload (x := ((27 + (4 * ((h.1 133 26) + 1))) - 4)) dX12_isKept_93 rfl ?_
    refine go_iconst (v := 1) dX12_isKept_95 rfl ?_
    refine go_iadd dX12_isKept_96 ?_
    refine go_iload_n (x := a1) dX12_isKept_97 rfl ?_
    refine go_iast dX12_isKept_98 sh133 vc.1 ?_
    have vc := vc.2
    show gg p l e s m args below meth c G d MX12_isKept Q 99 [some (.ref 82), some (.int a1), some (.int a2), some (.int a3), some (.int ((27 + (4 * ((h.1 133 26) + 1))) - 4))] [] (sI (sI (sI h 133 26 ((h.1 133 26) + 1)) 133 (((27 + (4 * ((h.1 133 26) + 1))) - 4) : Int32).toNatClampNeg (h.1 133 0)) 133 ((((27 + (4 * ((h.1 133 26) + 1))) - 4) + 1) : Int32).toNatClampNeg a1)
    refine go_aload_n (x := 82) dX12_isKept_99 rfl ?_
    refine go_getR (x := 133) dX12_isKept_100 f12_166 sh82 (fun _ _ => rfl) (rf82_68 hR) ?_
    refine go_iload (x := ((27 + (4 * ((h.1 133 26) + 1))) - 4)) dX12_isKept_103 rfl ?_
    refine go_iconst (v := 2) dX12_isKept_105 rfl ?_
    refine go_iadd dX12_isKept_106 ?_
    refine go_iload_n (x := a2) dX12_isKept_107 rfl ?_
    refine go_iast dX12_isKept_108 sh133 vc.1 ?_
    have vc := vc.2
    show gg p l e s m args below meth c G d MX12_isKept Q 109 [some (.ref 82), some (.int a1), some (.int a2), some (.int a3), some (.int ((27 + (4 * ((h.1 133 26) + 1))) - 4))] [] (sI (sI (sI (sI h 133 26 ((h.1 133 26) + 1)) 133 (((27 + (4 * ((h.1 133 26) + 1))) - 4) : Int32).toNatClampNeg (h.1 133 0)) 133 ((((27 + (4 * ((h.1 133 26) + 1))) - 4) + 1) : Int32).toNatClampNeg a1) 133 ((((27 + (4 * ((h.1 133 26) + 1))) - 4) + 2) : Int32).toNatClampNeg a2)
    refine go_aload_n (x := 82) dX12_isKept_109 rfl ?_
    refine go_getR (x := 133) dX12_isKept_110 f12_166 sh82 (fun _ _ => rfl) (rf82_68 hR) ?_
    refine go_iload (x := ((27 + (4 * ((h.1 133 26) + 1))) - 4)) dX12_isKept_113 rfl ?_
    refine go_iconst (v := 3) dX12_isKept_115 rfl ?_
    refine go_iadd dX12_isKept_116 ?_
    refine go_iload_n (x := a3) dX12_isKept_117 rfl ?_
    refine go_if_eq 125 dX12_isKept_118 rfl (fun q => ?_) (fun q => ?_)
    · replace vc := vc.1 q
      refine go_iconst (v := 0) dX12_isKept_125 rfl ?_
      refine go_iast dX12_isKept_126 sh133 vc.1 ?_
      have vc := vc.2
      show gg p l e s m args below meth c G d MX12_isKept Q 127 [some (.ref 82), some (.int a1), some (.int a2), some (.int a3), some (.int ((27 + (4 * ((h.1 133 26) + 1))) - 4))] [] (sI (sI (sI (sI (sI h 133 26 ((h.1 133 26) + 1)) 133 (((27 + (4 * ((h.1 133 26) + 1))) - 4) : Int32).toNatClampNeg (h.1 133 0)) 133 ((((27 + (4 * ((h.1 133 26) + 1))) - 4) + 1) : Int32).toNatClampNeg a1) 133 ((((27 + (4 * ((h.1 133 26) + 1))) - 4) + 2) : Int32).toNatClampNeg a2) 133 ((((27 + (4 * ((h.1 133 26) + 1))) - 4) + 3) : Int32).toNatClampNeg 0)
      exact go_vret dX12_isKept_127 rfl vc rfl (Nat.le_refl _) (Nat.le_refl _)
    · replace vc := vc.2 q
      refine go_iconst (v := 1) dX12_isKept_121 rfl ?_
      refine go_goto 126 dX12_isKept_122 rfl ?_
      refine go_iast dX12_isKept_126 sh133 vc.1 ?_
      have vc := vc.2
      show gg p l e s m args below meth c G d MX12_isKept Q 127 [some (.ref 82), some (.int a1), some (.int a2), some (.int a3), some (.int ((27 + (4 * ((h.1 133 26) + 1))) - 4))] [] (sI (sI (sI (sI (sI h 133 26 ((h.1 133 26) + 1)) 133 (((27 + (4 * ((h.1 133 26) + 1))) - 4) : Int32).toNatClampNeg (h.1 133 0)) 133 ((((27 + (4 * ((h.1 133 26) + 1))) - 4) + 1) : Int32).toNatClampNeg a1) 133 ((((27 + (4 * ((h.1 133 26) + 1))) - 4) + 2) : Int32).toNatClampNeg a2) 133 ((((27 + (4 * ((h.1 133 26) + 1))) - 4) + 3) : Int32).toNatClampNeg 1)
      exact go_vret dX12_isKept_127 rfl vc rfl (Nat.le_refl _) (Nat.le_refl _)
  · replace vc := vc.2 q
    refine go_bipush (v := 27) dX12_isKept_12 rfl ?_
    refine go_istore dX12_isKept_14 (Nat.le_of_ble_eq_true rfl) ?_
    show gg p l e s m args below meth c G d MX12_isKept Q 16 [some (.ref 82), some (.int a1), some (.int a2), some (.int a3), some (.int 27)] [] h
    exact vc
set_option maxRecDepth 20000 in
theorem wX12_isKept_16 {p : Program} {l : Launch} {e : Env} {s : State} {m : MethodId} {args : Array Value} {below : List Frame} {meth : Method} {c : Code} {G : gG} {d : Nat} {Q : Option Value → gH → Prop} {h : gH} {lk sp : Nat} {cd : Option Nat} {x1 : Int32} {x2 : Int32} {x3 : Int32} {x4 : Int32} (hR : h.2.2 = gRF lk sp cd) (hlk : lk = 30 ∨ lk = 67) (hsp : sp = 30 ∨ sp = 67)  (vc : ((183 ≤ x4 → (vp_in (((27 + (4 * (h.1 133 26))) - 4)) 187 ∧ (vp_in ((((27 + (4 * (h.1 133 26))) - 4) + 1)) 187 ∧ (vp_in ((((27 + (4 * (h.1 133 26))) - 4) + 2)) 187 ∧ ((x3 = 0 → (vp_in ((((27 + (4 * (h.1 133 26))) - 4) + 3)) 187 ∧ Q none (sI (sI (sI (sI h 133 (((27 + (4 * (h.1 133 26))) - 4) : Int32).toNatClampNeg (h.1 133 0)) 133 ((((27 + (4 * (h.1 133 26))) - 4) + 1) : Int32).toNatClampNeg x1) 133 ((((27 + (4 * (h.1 133 26))) - 4) + 2) : Int32).toNatClampNeg x2) 133 ((((27 + (4 * (h.1 133 26))) - 4) + 3) : Int32).toNatClampNeg 0))) ∧ (¬ x3 = 0 → (vp_in ((((27 + (4 * (h.1 133 26))) - 4) + 3)) 187 ∧ Q none (sI (sI (sI (sI h 133 (((27 + (4 * (h.1 133 26))) - 4) : Int32).toNatClampNeg (h.1 133 0)) 133 ((((27 + (4 * (h.1 133 26))) - 4) + 1) : Int32).toNatClampNeg x1) 133 ((((27 + (4 * (h.1 133 26))) - 4) + 2) : Int32).toNatClampNeg x2) 133 ((((27 + (4 * (h.1 133 26))) - 4) + 3) : Int32).toNatClampNeg 1)))))))) ∧ (¬ 183 ≤ x4 → (vp_in ((x4 + 4)) 187 ∧ (vp_in x4 187 ∧ gg p l e s m args below meth c G d MX12_isKept Q 16 [some (.ref 82), some (.int x1), some (.int x2), some (.int x3), some (.int (x4 + 1))] [] (sI h 133 x4.toNatClampNeg (h.1 133 ((x4 + 4) : Int32).toNatClampNeg))))))) : gg p l e s m args below meth c G d MX12_isKept Q 16 [some (.ref 82), some (.int x1), some (.int x2), some (.int x3), some (.int x4)] [] h := by
  refine go_iload (x := x4) dX12_isKept_16 rfl ?_
  refine go_sipush (v := 183) dX12_isKept_18 rfl ?_
  refine go_icmp_ge 46 dX12_isKept_21 rfl (fun q => ?_) (fun q => ?_)
  · replace vc := vc.1 q
    refine go_goto 60 dX12_isKept_46 rfl ?_
    refine go_bipush (v := 27) dX12_isKept_60 rfl ?_
    refine go_iconst (v := 4) dX12_isKept_62 rfl ?_
    refine go_aload_n (x := 82) dX12_isKept_63 rfl ?_
    refine go_getR (x := 133) dX12_isKept_64 f12_166 sh82 (fun _ _ => rfl) (rf82_68 hR) ?_
    refine go_bipush (v := 26) dX12_isKept_67 rfl ?_
    refine go_iald' (v := (h.1 133 26)) dX12_isKept_69 sh133 (by unfold vp_in; decide) rfl ?_
    refine go_imul dX12_isKept_70 ?_
    refine go_iadd dX12_isKept_71 ?_
    refine go_iconst (v := 4) dX12_isKept_72 rfl ?_
    refine go_isub dX12_isKept_73 ?_
    refine go_istore dX12_isKept_74 (Nat.le_of_ble_eq_true rfl) ?_
    show gg p l e s m args below meth c G d MX12_isKept Q 76 [some (.ref 82), some (.int x1), some (.int x2), some (.int x3), some (.int ((27 + (4 * (h.1 133 26))) - 4))] [] h
    refine go_aload_n (x := 82) dX12_isKept_76 rfl ?_
    refine go_getR (x := 133) dX12_isKept_77 f12_166 sh82 (fun _ _ => rfl) (rf82_68 hR) ?_
    refine go_iload (x := ((27 + (4 * (h.1 133 26))) - 4)) dX12_isKept_80 rfl ?_
    refine go_aload_n (x := 82) dX12_isKept_82 rfl ?_
    refine go_getR (x := 133) dX12_isKept_83 f12_166 sh82 (fun _ _ => rfl) (rf82_68 hR) ?_
    refine go_iconst (v := 0) dX12_isKept_86 rfl ?_
    refine go_iald' (v := (h.1 133 0)) dX12_isKept_87 sh133 (by unfold vp_in; decide) rfl ?_
    refine go_iast dX12_isKept_88 sh133 vc.1 ?_
    have vc := vc.2
    show gg p l e s m args below meth c G d MX12_isKept Q 89 [some (.ref 82), some (.int x1), some (.int x2), some (.int x3), some (.int ((27 + (4 * (h.1 133 26))) - 4))] [] (sI h 133 (((27 + (4 * (h.1 133 26))) - 4) : Int32).toNatClampNeg (h.1 133 0))
    refine go_aload_n (x := 82) dX12_isKept_89 rfl ?_
    refine go_getR (x := 133) dX12_isKept_90 f12_166 sh82 (fun _ _ => rfl) (rf82_68 hR) ?_
    refine go_iload (x := ((27 + (4 * (h.1 133 26))) - 4)) dX12_isKept_93 rfl ?_
    refine go_iconst (v := 1) dX12_isKept_95 rfl ?_
    refine go_iadd dX12_isKept_96 ?_
    refine go_iload_n (x := x1) dX12_isKept_97 rfl ?_
    refine go_iast dX12_isKept_98 sh133 vc.1 ?_
    have vc := vc.2
    show gg p l e s m args below meth c G d MX12_isKept Q 99 [some (.ref 82), some (.int x1), some (.int x2), some (.int x3), some (.int ((27 + (4 * (h.1 133 26))) - 4))] [] (sI (sI h 133 (((27 + (4 * (h.1 133 26))) - 4) : Int32).toNatClampNeg (h.1 133 0)) 133 ((((27 + (4 * (h.1 133 26))) - 4) + 1) : Int32).toNatClampNeg x1)
    refine go_aload_n (x := 82) dX12_isKept_99 rfl ?_
    refine go_getR (x := 133) dX12_isKept_100 f12_166 sh82 (fun _ _ => rfl) (rf82_68 hR) ?_
    refine go_iload (x := ((27 + (4 * (h.1 133 26))) - 4)) dX12_isKept_103 rfl ?_
    refine go_iconst (v := 2) dX12_isKept_105 rfl ?_
    refine go_iadd dX12_isKept_106 ?_
    refine go_iload_n (x := x2) dX12_isKept_107 rfl ?_
    refine go_iast dX12_isKept_108 sh133 vc.1 ?_
    have vc := vc.2
    show gg p l e s m args below meth c G d MX12_isKept Q 109 [some (.ref 82), some (.int x1), some (.int x2), some (.int x3), some (.int ((27 + (4 * (h.1 133 26))) - 4))] [] (sI (sI (sI h 133 (((27 + (4 * (h.1 133 26))) - 4) : Int32).toNatClampNeg (h.1 133 0)) 133 ((((27 + (4 * (h.1 133 26))) - 4) + 1) : Int32).toNatClampNeg x1) 133 ((((27 + (4 * (h.1 133 26))) - 4) + 2) : Int32).toNatClampNeg x2)
    refine go_aload_n (x := 82) dX12_isKept_109 rfl ?_
    refine go_getR (x := 133) dX12_isKept_110 f12_166 sh82 (fun _ _ => rfl) (rf82_68 hR) ?_
    refine go_iload (x := ((27 + (4 * (h.1 133 26))) - 4)) dX12_isKept_113 rfl ?_
    refine go_iconst (v := 3) dX12_isKept_115 rfl ?_
    refine go_iadd dX12_isKept_116 ?_
    refine go_iload_n (x := x3) dX12_isKept_117 rfl ?_
    refine go_if_eq 125 dX12_isKept_118 rfl (fun q => ?_) (fun q => ?_)
    · replace vc := vc.1 q
      refine go_iconst (v := 0) dX12_isKept_125 rfl ?_
      refine go_iast dX12_isKept_126 sh133 vc.1 ?_
      have vc := vc.2
      show gg p l e s m args below meth c G d MX12_isKept Q 127 [some (.ref 82), some (.int x1), some (.int x2), some (.int x3), some (.int ((27 + (4 * (h.1 133 26))) - 4))] [] (sI (sI (sI (sI h 133 (((27 + (4 * (h.1 133 26))) - 4) : Int32).toNatClampNeg (h.1 133 0)) 133 ((((27 + (4 * (h.1 133 26))) - 4) + 1) : Int32).toNatClampNeg x1) 133 ((((27 + (4 * (h.1 133 26))) - 4) + 2) : Int32).toNatClampNeg x2) 133 ((((27 + (4 * (h.1 133 26))) - 4) + 3) : Int32).toNatClampNeg 0)
      exact go_vret dX12_isKept_127 rfl vc rfl (Nat.le_refl _) (Nat.le_refl _)
    · replace vc := vc.2 q
      refine go_iconst (v := 1) dX12_isKept_121 rfl ?_
      refine go_goto 126 dX12_isKept_122 rfl ?_
      refine go_iast dX12_isKept_126 sh133 vc.1 ?_
      have vc := vc.2
      show gg p l e s m args below meth c G d MX12_isKept Q 127 [some (.ref 82), some (.int x1), some (.int x2), some (.int x3), some (.int ((27 + (4 * (h.1 133 26))) - 4))] [] (sI (sI (sI (sI h 133 (((27 + (4 * (h.1 133 26))) - 4) : Int32).toNatClampNeg (h.1 133 0)) 133 ((((27 + (4 * (h.1 133 26))) - 4) + 1) : Int32).toNatClampNeg x1) 133 ((((27 + (4 * (h.1 133 26))) - 4) + 2) : Int32).toNatClampNeg x2) 133 ((((27 + (4 * (h.1 133 26))) - 4) + 3) : Int32).toNatClampNeg 1)
      exact go_vret dX12_isKept_127 rfl vc rfl (Nat.le_refl _) (Nat.le_refl _)
  · replace vc := vc.2 q
    refine go_aload_n (x := 82) dX12_isKept_24 rfl ?_
    refine go_getR (x := 133) dX12_isKept_25 f12_166 sh82 (fun _ _ => rfl) (rf82_68 hR) ?_
    refine go_iload (x := x4) dX12_isKept_28 rfl ?_
    refine go_aload_n (x := 82) dX12_isKept_30 rfl ?_
    refine go_getR (x := 133) dX12_isKept_31 f12_166 sh82 (fun _ _ => rfl) (rf82_68 hR) ?_
    refine go_iload (x := x4) dX12_isKept_34 rfl ?_
    refine go_iconst (v := 4) dX12_isKept_36 rfl ?_
    refine go_iadd dX12_isKept_37 ?_
    refine go_iald' (v := (h.1 133 ((x4 + 4) : Int32).toNatClampNeg)) dX12_isKept_38 sh133 vc.1 rfl ?_
    have vc := vc.2
    refine go_iast dX12_isKept_39 sh133 vc.1 ?_
    have vc := vc.2
    show gg p l e s m args below meth c G d MX12_isKept Q 40 [some (.ref 82), some (.int x1), some (.int x2), some (.int x3), some (.int x4)] [] (sI h 133 x4.toNatClampNeg (h.1 133 ((x4 + 4) : Int32).toNatClampNeg))
    refine go_iinc (x := x4) dX12_isKept_40 rfl ?_
    show gg p l e s m args below meth c G d MX12_isKept Q 43 [some (.ref 82), some (.int x1), some (.int x2), some (.int x3), some (.int (x4 + 1))] [] (sI h 133 x4.toNatClampNeg (h.1 133 ((x4 + 4) : Int32).toNatClampNeg))
    refine go_goto 16 dX12_isKept_43 rfl ?_
    exact vc
set_option maxRecDepth 20000 in
theorem wX12_tries_0 {p : Program} {l : Launch} {e : Env} {s : State} {m : MethodId} {args : Array Value} {below : List Frame} {meth : Method} {c : Code} {G : gG} {d : Nat} {Q : Option Value → gH → Prop} {h : gH} {lk sp : Nat} {cd : Option Nat} {a1 : Int32} {a2 : Int32} {a3 : Int32} (hR : h.2.2 = gRF lk sp cd) (hlk : lk = 30 ∨ lk = 67) (hsp : sp = 30 ∨ sp = 67)  (vc : gC l G d MX12_wouldGo [.ref 82, .int a1, .int a2, .int a3] h (rI fun v1 h1 => h1.2.2 = (h).2.2 ∧ gC l G d MX12_learnt [.ref 82, .int a1, .int a2, .int a3, .int v1] h1 (rI fun v2 h2 => h2.2.2 = (h1).2.2 ∧ (vp_in (((2 + (4 * a1)) + 1)) 187 ∧ ((v1 = 0 → gC l G d MX12_balksOf [.ref 82, .int a1] (sI h2 133 (((2 + (4 * a1)) + 1) : Int32).toNatClampNeg v2) (rI fun v3 h3 => h3.2.2 = ((sI h2 133 (((2 + (4 * a1)) + 1) : Int32).toNatClampNeg v2)).2.2 ∧ ((99 ≤ v3 → gC l G d MX12_isKept [.ref 82, .int a1, .int a2, .int v1] h3 (rV fun h4 => h4.2.2 = (h3).2.2 ∧ ((v1 = 0 ∨ v1 = 1) ∧ Q (some (.int v1)) h4))) ∧ (¬ 99 ≤ v3 → (vp_in (((2 + (4 * a1)) + 2)) 187 ∧ (vp_in (((2 + (4 * a1)) + 2)) 187 ∧ gC l G d MX12_isKept [.ref 82, .int a1, .int a2, .int v1] (sI h3 133 (((2 + (4 * a1)) + 2) : Int32).toNatClampNeg ((h3.1 133 (((2 + (4 * a1)) + 2) : Int32).toNatClampNeg) + 1)) (rV fun h5 => h5.2.2 = ((sI h3 133 (((2 + (4 * a1)) + 2) : Int32).toNatClampNeg ((h3.1 133 (((2 + (4 * a1)) + 2) : Int32).toNatClampNeg) + 1))).2.2 ∧ ((v1 = 0 ∨ v1 = 1) ∧ Q (some (.int v1)) h5)))))))) ∧ (¬ v1 = 0 → (vp_in ((2 + (4 * a1))) 187 ∧ gC l G d MX12_isKept [.ref 82, .int a1, .int a2, .int v1] (sI (sI h2 133 (((2 + (4 * a1)) + 1) : Int32).toNatClampNeg v2) 133 ((2 + (4 * a1)) : Int32).toNatClampNeg a2) (rV fun h6 => h6.2.2 = ((sI (sI h2 133 (((2 + (4 * a1)) + 1) : Int32).toNatClampNeg v2) 133 ((2 + (4 * a1)) : Int32).toNatClampNeg a2)).2.2 ∧ ((v1 = 0 ∨ v1 = 1) ∧ Q (some (.int v1)) h6))))))))) : gg p l e s m args below meth c G (d + 1) MX12_tries Q 0 [some (.ref 82), some (.int a1), some (.int a2), some (.int a3), none, none] [] h := by
  refine go_aload_n (x := 82) dX12_tries_0 rfl ?_
  refine go_iload_n (x := a1) dX12_tries_1 rfl ?_
  refine go_iload_n (x := a2) dX12_tries_2 rfl ?_
  refine go_iload_n (x := a3) dX12_tries_3 rfl ?_
  refine gvI3 MX12_wouldGo dX12_tries_4 lX12_545 kX12_wouldGo vX12_wouldGo sh82 (by decide) rfl (Nat.le_of_ble_eq_true rfl) vc ?_
  intro v1 h1 vc
  obtain ⟨hR1, vc⟩ := vc
  replace hR := hR1.trans hR
  refine go_istore dX12_tries_7 (Nat.le_of_ble_eq_true rfl) ?_
  show gg p l e s m args below meth c G (d + 1) MX12_tries Q 9 [some (.ref 82), some (.int a1), some (.int a2), some (.int a3), some (.int v1), none] [] h1
  refine go_aload_n (x := 82) dX12_tries_9 rfl ?_
  refine go_iload_n (x := a1) dX12_tries_10 rfl ?_
  refine go_iload_n (x := a2) dX12_tries_11 rfl ?_
  refine go_iload_n (x := a3) dX12_tries_12 rfl ?_
  refine go_iload (x := v1) dX12_tries_13 rfl ?_
  refine gvI4 MX12_learnt dX12_tries_15 lX12_548 kX12_learnt vX12_learnt sh82 (by decide) rfl (Nat.le_of_ble_eq_true rfl) vc ?_
  intro v2 h2 vc
  obtain ⟨hR2, vc⟩ := vc
  replace hR := hR2.trans hR
  refine go_istore dX12_tries_18 (Nat.le_of_ble_eq_true rfl) ?_
  show gg p l e s m args below meth c G (d + 1) MX12_tries Q 20 [some (.ref 82), some (.int a1), some (.int a2), some (.int a3), some (.int v1), some (.int v2)] [] h2
  refine go_aload_n (x := 82) dX12_tries_20 rfl ?_
  refine go_getR (x := 133) dX12_tries_21 f12_166 sh82 (fun _ _ => rfl) (rf82_68 hR) ?_
  refine go_iconst (v := 2) dX12_tries_24 rfl ?_
  refine go_iconst (v := 4) dX12_tries_25 rfl ?_
  refine go_iload_n (x := a1) dX12_tries_26 rfl ?_
  refine go_imul dX12_tries_27 ?_
  refine go_iadd dX12_tries_28 ?_
  refine go_iconst (v := 1) dX12_tries_29 rfl ?_
  refine go_iadd dX12_tries_30 ?_
  refine go_iload (x := v2) dX12_tries_31 rfl ?_
  refine go_iast dX12_tries_33 sh133 vc.1 ?_
  have vc := vc.2
  show gg p l e s m args below meth c G (d + 1) MX12_tries Q 34 [some (.ref 82), some (.int a1), some (.int a2), some (.int a3), some (.int v1), some (.int v2)] [] (sI h2 133 (((2 + (4 * a1)) + 1) : Int32).toNatClampNeg v2)
  refine go_iload (x := v1) dX12_tries_34 rfl ?_
  refine go_if_eq 53 dX12_tries_36 rfl (fun q => ?_) (fun q => ?_)
  · replace vc := vc.1 q
    refine go_aload_n (x := 82) dX12_tries_53 rfl ?_
    refine go_iload_n (x := a1) dX12_tries_54 rfl ?_
    refine gvI1 MX12_balksOf dX12_tries_55 lX12_516 kX12_balksOf vX12_balksOf sh82 (by decide) rfl (Nat.le_of_ble_eq_true rfl) vc ?_
    intro v3 h3 vc
    obtain ⟨hR3, vc⟩ := vc
    replace hR := hR3.trans hR
    refine go_bipush (v := 99) dX12_tries_58 rfl ?_
    refine go_icmp_ge 79 dX12_tries_60 rfl (fun q => ?_) (fun q => ?_)
    · replace vc := vc.1 q
      refine go_aload_n (x := 82) dX12_tries_79 rfl ?_
      refine go_iload_n (x := a1) dX12_tries_80 rfl ?_
      refine go_iload_n (x := a2) dX12_tries_81 rfl ?_
      refine go_iload (x := v1) dX12_tries_82 rfl ?_
      refine gvV3 MX12_isKept dX12_tries_84 lX12_552 kX12_isKept vX12_isKept sh82 (by decide) rfl (Nat.le_of_ble_eq_true rfl) vc ?_
      intro h4 vc
      obtain ⟨hR4, vc⟩ := vc
      replace hR := hR4.trans hR
      refine go_iload (x := v1) dX12_tries_87 rfl ?_
      exact go_zret dX12_tries_89 rfl vc.1 vc.2 rfl (Nat.le_refl _) (Nat.le_refl _)
    · replace vc := vc.2 q
      refine go_aload_n (x := 82) dX12_tries_63 rfl ?_
      refine go_getR (x := 133) dX12_tries_64 f12_166 sh82 (fun _ _ => rfl) (rf82_68 hR) ?_
      refine go_iconst (v := 2) dX12_tries_67 rfl ?_
      refine go_iconst (v := 4) dX12_tries_68 rfl ?_
      refine go_iload_n (x := a1) dX12_tries_69 rfl ?_
      refine go_imul dX12_tries_70 ?_
      refine go_iadd dX12_tries_71 ?_
      refine go_iconst (v := 2) dX12_tries_72 rfl ?_
      refine go_iadd dX12_tries_73 ?_
      refine go_dup2 dX12_tries_74 rfl rfl ?_
      refine go_iald' (v := (h3.1 133 (((2 + (4 * a1)) + 2) : Int32).toNatClampNeg)) dX12_tries_75 sh133 vc.1 rfl ?_
      have vc := vc.2
      refine go_iconst (v := 1) dX12_tries_76 rfl ?_
      refine go_iadd dX12_tries_77 ?_
      refine go_iast dX12_tries_78 sh133 vc.1 ?_
      have vc := vc.2
      show gg p l e s m args below meth c G (d + 1) MX12_tries Q 79 [some (.ref 82), some (.int a1), some (.int a2), some (.int a3), some (.int v1), some (.int v2)] [] (sI h3 133 (((2 + (4 * a1)) + 2) : Int32).toNatClampNeg ((h3.1 133 (((2 + (4 * a1)) + 2) : Int32).toNatClampNeg) + 1))
      refine go_aload_n (x := 82) dX12_tries_79 rfl ?_
      refine go_iload_n (x := a1) dX12_tries_80 rfl ?_
      refine go_iload_n (x := a2) dX12_tries_81 rfl ?_
      refine go_iload (x := v1) dX12_tries_82 rfl ?_
      refine gvV3 MX12_isKept dX12_tries_84 lX12_552 kX12_isKept vX12_isKept sh82 (by decide) rfl (Nat.le_of_ble_eq_true rfl) vc ?_
      intro h5 vc
      obtain ⟨hR5, vc⟩ := vc
      replace hR := hR5.trans hR
      refine go_iload (x := v1) dX12_tries_87 rfl ?_
      exact go_zret dX12_tries_89 rfl vc.1 vc.2 rfl (Nat.le_refl _) (Nat.le_refl _)
  · replace vc := vc.2 q
    refine go_aload_n (x := 82) dX12_tries_39 rfl ?_
    refine go_getR (x := 133) dX12_tries_40 f12_166 sh82 (fun _ _ => rfl) (rf82_68 hR) ?_
    refine go_iconst (v := 2) dX12_tries_43 rfl ?_
    refine go_iconst (v := 4) dX12_tries_44 rfl ?_
    refine go_iload_n (x := a1) dX12_tries_45 rfl ?_
    refine go_imul dX12_tries_46 ?_
    refine go_iadd dX12_tries_47 ?_
    refine go_iload_n (x := a2) dX12_tries_48 rfl ?_
    refine go_iast dX12_tries_49 sh133 vc.1 ?_
    have vc := vc.2
    show gg p l e s m args below meth c G (d + 1) MX12_tries Q 50 [some (.ref 82), some (.int a1), some (.int a2), some (.int a3), some (.int v1), some (.int v2)] [] (sI (sI h2 133 (((2 + (4 * a1)) + 1) : Int32).toNatClampNeg v2) 133 ((2 + (4 * a1)) : Int32).toNatClampNeg a2)
    refine go_goto 79 dX12_tries_50 rfl ?_
    refine go_aload_n (x := 82) dX12_tries_79 rfl ?_
    refine go_iload_n (x := a1) dX12_tries_80 rfl ?_
    refine go_iload_n (x := a2) dX12_tries_81 rfl ?_
    refine go_iload (x := v1) dX12_tries_82 rfl ?_
    refine gvV3 MX12_isKept dX12_tries_84 lX12_552 kX12_isKept vX12_isKept sh82 (by decide) rfl (Nat.le_of_ble_eq_true rfl) vc ?_
    intro h6 vc
    obtain ⟨hR6, vc⟩ := vc
    replace hR := hR6.trans hR
    refine go_iload (x := v1) dX12_tries_87 rfl ?_
    exact go_zret dX12_tries_89 rfl vc.1 vc.2 rfl (Nat.le_refl _) (Nat.le_refl _)
set_option maxRecDepth 20000 in
theorem wX12_beside_0 {p : Program} {l : Launch} {e : Env} {s : State} {m : MethodId} {args : Array Value} {below : List Frame} {meth : Method} {c : Code} {G : gG} {d : Nat} {Q : Option Value → gH → Prop} {h : gH} {lk sp : Nat} {cd : Option Nat} {a1 : Int32} {a2 : Int32} (hR : h.2.2 = gRF lk sp cd) (hlk : lk = 30 ∨ lk = 67) (hsp : sp = 30 ∨ sp = 67)  (vc : gC l G d MX12_columns [.ref 82] h (rI fun v1 h1 => h1.2.2 = (h).2.2 ∧ (¬ v1 = 0 ∧ ((¬ a2 = 0 → ((¬ a2 = 1 → ((¬ a2 = 2 → (((a1 - a1 / v1 * v1) ≤ 0 → Q (some (.int (-1))) h1) ∧ (¬ (a1 - a1 / v1 * v1) ≤ 0 → Q (some (.int (a1 - 1))) h1))) ∧ (a2 = 2 → gC l G d MX12_columns [.ref 82] h1 (rI fun v2 h2 => h2.2.2 = (h1).2.2 ∧ gC l G d MX12_cellMany [.ref 82] h2 (rI fun v3 h3 => h3.2.2 = (h2).2.2 ∧ ((v3 ≤ (a1 + v2) → Q (some (.int (-1))) h3) ∧ (¬ v3 ≤ (a1 + v2) → gC l G d MX12_columns [.ref 82] h3 (rI fun v4 h4 => h4.2.2 = (h3).2.2 ∧ Q (some (.int (a1 + v4))) h4)))))))) ∧ (a2 = 1 → gC l G d MX12_columns [.ref 82] h1 (rI fun v5 h5 => h5.2.2 = (h1).2.2 ∧ ((v5 ≤ ((a1 - a1 / v1 * v1) + 1) → Q (some (.int (-1))) h5) ∧ (¬ v5 ≤ ((a1 - a1 / v1 * v1) + 1) → Q (some (.int (a1 + 1))) h5)))))) ∧ (a2 = 0 → gC l G d MX12_columns [.ref 82] h1 (rI fun v6 h6 => h6.2.2 = (h1).2.2 ∧ ((a1 < v6 → Q (some (.int (-1))) h6) ∧ (¬ a1 < v6 → gC l G d MX12_columns [.ref 82] h6 (rI fun v7 h7 => h7.2.2 = (h6).2.2 ∧ Q (some (.int (a1 - v7))) h7))))))))) : gg p l e s m args below meth c G (d + 1) MX12_beside Q 0 [some (.ref 82), some (.int a1), some (.int a2), none] [] h := by
  refine go_iload_n (x := a1) dX12_beside_0 rfl ?_
  refine go_aload_n (x := 82) dX12_beside_1 rfl ?_
  refine gvI0 MX12_columns dX12_beside_2 lX12_477 kX12_columns vX12_columns sh82 (by decide) rfl (Nat.le_of_ble_eq_true rfl) vc ?_
  intro v1 h1 vc
  obtain ⟨hR1, vc⟩ := vc
  replace hR := hR1.trans hR
  refine go_irem dX12_beside_5 vc.1 ?_
  have vc := vc.2
  refine go_istore_n dX12_beside_6 (Nat.le_of_ble_eq_true rfl) ?_
  show gg p l e s m args below meth c G (d + 1) MX12_beside Q 7 [some (.ref 82), some (.int a1), some (.int a2), some (.int (a1 - a1 / v1 * v1))] [] h1
  refine go_iload_n (x := a2) dX12_beside_7 rfl ?_
  refine go_if_ne 30 dX12_beside_8 rfl (fun q => ?_) (fun q => ?_)
  · replace vc := vc.1 q
    refine go_iload_n (x := a2) dX12_beside_30 rfl ?_
    refine go_iconst (v := 1) dX12_beside_31 rfl ?_
    refine go_icmp_ne 53 dX12_beside_32 rfl (fun q => ?_) (fun q => ?_)
    · replace vc := vc.1 q
      refine go_iload_n (x := a2) dX12_beside_53 rfl ?_
      refine go_iconst (v := 2) dX12_beside_54 rfl ?_
      refine go_icmp_ne 82 dX12_beside_55 rfl (fun q => ?_) (fun q => ?_)
      · replace vc := vc.1 q
        refine go_iload_n (x := (a1 - a1 / v1 * v1)) dX12_beside_82 rfl ?_
        refine go_if_le 92 dX12_beside_83 rfl (fun q => ?_) (fun q => ?_)
        · replace vc := vc.1 q
          refine go_iconst (v := (-1)) dX12_beside_92 rfl ?_
          exact go_iret dX12_beside_93 rfl vc rfl (Nat.le_refl _) (Nat.le_refl _)
        · replace vc := vc.2 q
          refine go_iload_n (x := a1) dX12_beside_86 rfl ?_
          refine go_iconst (v := 1) dX12_beside_87 rfl ?_
          refine go_isub dX12_beside_88 ?_
          refine go_goto 93 dX12_beside_89 rfl ?_
          exact go_iret dX12_beside_93 rfl vc rfl (Nat.le_refl _) (Nat.le_refl _)
      · replace vc := vc.2 q
        refine go_iload_n (x := a1) dX12_beside_58 rfl ?_
        refine go_aload_n (x := 82) dX12_beside_59 rfl ?_
        refine gvI0 MX12_columns dX12_beside_60 lX12_477 kX12_columns vX12_columns sh82 (by decide) rfl (Nat.le_of_ble_eq_true rfl) vc ?_
        intro v2 h2 vc
        obtain ⟨hR2, vc⟩ := vc
        replace hR := hR2.trans hR
        refine go_iadd dX12_beside_63 ?_
        refine go_aload_n (x := 82) dX12_beside_64 rfl ?_
        refine gvI0 MX12_cellMany dX12_beside_65 lX12_480 kX12_cellMany vX12_cellMany sh82 (by decide) rfl (Nat.le_of_ble_eq_true rfl) vc ?_
        intro v3 h3 vc
        obtain ⟨hR3, vc⟩ := vc
        replace hR := hR3.trans hR
        refine go_icmp_ge 80 dX12_beside_68 rfl (fun q => ?_) (fun q => ?_)
        · replace vc := vc.1 q
          refine go_iconst (v := (-1)) dX12_beside_80 rfl ?_
          exact go_iret dX12_beside_81 rfl vc rfl (Nat.le_refl _) (Nat.le_refl _)
        · replace vc := vc.2 q
          refine go_iload_n (x := a1) dX12_beside_71 rfl ?_
          refine go_aload_n (x := 82) dX12_beside_72 rfl ?_
          refine gvI0 MX12_columns dX12_beside_73 lX12_477 kX12_columns vX12_columns sh82 (by decide) rfl (Nat.le_of_ble_eq_true rfl) vc ?_
          intro v4 h4 vc
          obtain ⟨hR4, vc⟩ := vc
          replace hR := hR4.trans hR
          refine go_iadd dX12_beside_76 ?_
          refine go_goto 81 dX12_beside_77 rfl ?_
          exact go_iret dX12_beside_81 rfl vc rfl (Nat.le_refl _) (Nat.le_refl _)
    · replace vc := vc.2 q
      refine go_iload_n (x := (a1 - a1 / v1 * v1)) dX12_beside_35 rfl ?_
      refine go_iconst (v := 1) dX12_beside_36 rfl ?_
      refine go_iadd dX12_beside_37 ?_
      refine go_aload_n (x := 82) dX12_beside_38 rfl ?_
      refine gvI0 MX12_columns dX12_beside_39 lX12_477 kX12_columns vX12_columns sh82 (by decide) rfl (Nat.le_of_ble_eq_true rfl) vc ?_
      intro v5 h5 vc
      obtain ⟨hR5, vc⟩ := vc
      replace hR := hR5.trans hR
      refine go_icmp_ge 51 dX12_beside_42 rfl (fun q => ?_) (fun q => ?_)
      · replace vc := vc.1 q
        refine go_iconst (v := (-1)) dX12_beside_51 rfl ?_
        exact go_iret dX12_beside_52 rfl vc rfl (Nat.le_refl _) (Nat.le_refl _)
      · replace vc := vc.2 q
        refine go_iload_n (x := a1) dX12_beside_45 rfl ?_
        refine go_iconst (v := 1) dX12_beside_46 rfl ?_
        refine go_iadd dX12_beside_47 ?_
        refine go_goto 52 dX12_beside_48 rfl ?_
        exact go_iret dX12_beside_52 rfl vc rfl (Nat.le_refl _) (Nat.le_refl _)
  · replace vc := vc.2 q
    refine go_iload_n (x := a1) dX12_beside_11 rfl ?_
    refine go_aload_n (x := 82) dX12_beside_12 rfl ?_
    refine gvI0 MX12_columns dX12_beside_13 lX12_477 kX12_columns vX12_columns sh82 (by decide) rfl (Nat.le_of_ble_eq_true rfl) vc ?_
    intro v6 h6 vc
    obtain ⟨hR6, vc⟩ := vc
    replace hR := hR6.trans hR
    refine go_icmp_lt 28 dX12_beside_16 rfl (fun q => ?_) (fun q => ?_)
    · replace vc := vc.1 q
      refine go_iconst (v := (-1)) dX12_beside_28 rfl ?_
      exact go_iret dX12_beside_29 rfl vc rfl (Nat.le_refl _) (Nat.le_refl _)
    · replace vc := vc.2 q
      refine go_iload_n (x := a1) dX12_beside_19 rfl ?_
      refine go_aload_n (x := 82) dX12_beside_20 rfl ?_
      refine gvI0 MX12_columns dX12_beside_21 lX12_477 kX12_columns vX12_columns sh82 (by decide) rfl (Nat.le_of_ble_eq_true rfl) vc ?_
      intro v7 h7 vc
      obtain ⟨hR7, vc⟩ := vc
      replace hR := hR7.trans hR
      refine go_isub dX12_beside_24 ?_
      refine go_goto 29 dX12_beside_25 rfl ?_
      exact go_iret dX12_beside_29 rfl vc rfl (Nat.le_refl _) (Nat.le_refl _)
set_option maxRecDepth 20000 in
theorem wX12_isBeside_0 {p : Program} {l : Launch} {e : Env} {s : State} {m : MethodId} {args : Array Value} {below : List Frame} {meth : Method} {c : Code} {G : gG} {d : Nat} {Q : Option Value → gH → Prop} {h : gH} {lk sp : Nat} {cd : Option Nat} {a1 : Int32} {a2 : Int32} (hR : h.2.2 = gRF lk sp cd) (hlk : lk = 30 ∨ lk = 67) (hsp : sp = 30 ∨ sp = 67)  (vc : gC l G d MX12_isWater [.ref 82, .int a2] h (rI fun v1 h1 => h1.2.2 = (h).2.2 ∧ ((v1 = 0 → Q (some (.int 0)) h1) ∧ (¬ v1 = 0 → gC l G d MX12_offOf [.ref 82, .int a1, .int a2] h1 (rI fun v2 h2 => h2.2.2 = (h1).2.2 ∧ ((¬ v2 = 1 → Q (some (.int 0)) h2) ∧ (v2 = 1 → Q (some (.int 1)) h2))))))) : gg p l e s m args below meth c G (d + 1) MX12_isBeside Q 0 [some (.ref 82), some (.int a1), some (.int a2)] [] h := by
  refine go_aload_n (x := 82) dX12_isBeside_0 rfl ?_
  refine go_iload_n (x := a2) dX12_isBeside_1 rfl ?_
  refine gvI1 MX12_isWater dX12_isBeside_2 lX12_556 kX12_isWater vX12_isWater sh82 (by decide) rfl (Nat.le_of_ble_eq_true rfl) vc ?_
  intro v1 h1 vc
  obtain ⟨hR1, vc⟩ := vc
  replace hR := hR1.trans hR
  refine go_if_eq 22 dX12_isBeside_5 rfl (fun q => ?_) (fun q => ?_)
  · replace vc := vc.1 q
    refine go_iconst (v := 0) dX12_isBeside_22 rfl ?_
    exact go_zret dX12_isBeside_23 rfl (by decide) vc rfl (Nat.le_refl _) (Nat.le_refl _)
  · replace vc := vc.2 q
    refine go_aload_n (x := 82) dX12_isBeside_8 rfl ?_
    refine go_iload_n (x := a1) dX12_isBeside_9 rfl ?_
    refine go_iload_n (x := a2) dX12_isBeside_10 rfl ?_
    refine gvI2 MX12_offOf dX12_isBeside_11 lX12_501 kX12_offOf vX12_offOf sh82 (by decide) rfl (Nat.le_of_ble_eq_true rfl) vc ?_
    intro v2 h2 vc
    obtain ⟨hR2, vc⟩ := vc
    replace hR := hR2.trans hR
    refine go_iconst (v := 1) dX12_isBeside_14 rfl ?_
    refine go_icmp_ne 22 dX12_isBeside_15 rfl (fun q => ?_) (fun q => ?_)
    · replace vc := vc.1 q
      refine go_iconst (v := 0) dX12_isBeside_22 rfl ?_
      exact go_zret dX12_isBeside_23 rfl (by decide) vc rfl (Nat.le_refl _) (Nat.le_refl _)
    · replace vc := vc.2 q
      refine go_iconst (v := 1) dX12_isBeside_18 rfl ?_
      refine go_goto 23 dX12_isBeside_19 rfl ?_
      exact go_zret dX12_isBeside_23 rfl (by decide) vc rfl (Nat.le_refl _) (Nat.le_refl _)
set_option maxRecDepth 20000 in
theorem wX12_putsAside_0 {p : Program} {l : Launch} {e : Env} {s : State} {m : MethodId} {args : Array Value} {below : List Frame} {meth : Method} {c : Code} {G : gG} {d : Nat} {Q : Option Value → gH → Prop} {h : gH} {lk sp : Nat} {cd : Option Nat}  (hR : h.2.2 = gRF lk sp cd) (hlk : lk = 30 ∨ lk = 67) (hsp : sp = 30 ∨ sp = 67)  (vc : gg p l e s m args below meth c G d MX12_putsAside Q 2 [some (.ref 82), some (.int 0)] [] h) : gg p l e s m args below meth c G d MX12_putsAside Q 0 [some (.ref 82), none] [] h := by
  refine go_iconst (v := 0) dX12_putsAside_0 rfl ?_
  refine go_istore_n dX12_putsAside_1 (Nat.le_of_ble_eq_true rfl) ?_
  show gg p l e s m args below meth c G d MX12_putsAside Q 2 [some (.ref 82), some (.int 0)] [] h
  exact vc
set_option maxRecDepth 20000 in
theorem wX12_putsAside_2 {p : Program} {l : Launch} {e : Env} {s : State} {m : MethodId} {args : Array Value} {below : List Frame} {meth : Method} {c : Code} {G : gG} {d : Nat} {Q : Option Value → gH → Prop} {h : gH} {lk sp : Nat} {cd : Option Nat} {x1 : Int32} (hR : h.2.2 = gRF lk sp cd) (hlk : lk = 30 ∨ lk = 67) (hsp : sp = 30 ∨ sp = 67)  (vc : ((187 ≤ x1 → Q none h) ∧ (¬ 187 ≤ x1 → (vp_in x1 187 ∧ (vp_in x1 187 ∧ gg p l e s m args below meth c G d MX12_putsAside Q 2 [some (.ref 82), some (.int (x1 + 1))] [] (sI h 134 x1.toNatClampNeg (h.1 133 x1.toNatClampNeg))))))) : gg p l e s m args below meth c G d MX12_putsAside Q 2 [some (.ref 82), some (.int x1)] [] h := by
  refine go_iload_n (x := x1) dX12_putsAside_2 rfl ?_
  refine go_sipush (v := 187) dX12_putsAside_3 rfl ?_
  refine go_icmp_ge 27 dX12_putsAside_6 rfl (fun q => ?_) (fun q => ?_)
  · replace vc := vc.1 q
    exact go_vret dX12_putsAside_27 rfl vc rfl (Nat.le_refl _) (Nat.le_refl _)
  · replace vc := vc.2 q
    refine go_aload_n (x := 82) dX12_putsAside_9 rfl ?_
    refine go_getR (x := 134) dX12_putsAside_10 f12_169 sh82 (fun _ _ => rfl) (rf82_69 hR) ?_
    refine go_iload_n (x := x1) dX12_putsAside_13 rfl ?_
    refine go_aload_n (x := 82) dX12_putsAside_14 rfl ?_
    refine go_getR (x := 133) dX12_putsAside_15 f12_166 sh82 (fun _ _ => rfl) (rf82_68 hR) ?_
    refine go_iload_n (x := x1) dX12_putsAside_18 rfl ?_
    refine go_iald' (v := (h.1 133 x1.toNatClampNeg)) dX12_putsAside_19 sh133 vc.1 rfl ?_
    have vc := vc.2
    refine go_iast dX12_putsAside_20 sh134 vc.1 ?_
    have vc := vc.2
    show gg p l e s m args below meth c G d MX12_putsAside Q 21 [some (.ref 82), some (.int x1)] [] (sI h 134 x1.toNatClampNeg (h.1 133 x1.toNatClampNeg))
    refine go_iinc (x := x1) dX12_putsAside_21 rfl ?_
    show gg p l e s m args below meth c G d MX12_putsAside Q 24 [some (.ref 82), some (.int (x1 + 1))] [] (sI h 134 x1.toNatClampNeg (h.1 133 x1.toNatClampNeg))
    refine go_goto 2 dX12_putsAside_24 rfl ?_
    exact vc
set_option maxRecDepth 20000 in
theorem wX12_takesBack_0 {p : Program} {l : Launch} {e : Env} {s : State} {m : MethodId} {args : Array Value} {below : List Frame} {meth : Method} {c : Code} {G : gG} {d : Nat} {Q : Option Value → gH → Prop} {h : gH} {lk sp : Nat} {cd : Option Nat}  (hR : h.2.2 = gRF lk sp cd) (hlk : lk = 30 ∨ lk = 67) (hsp : sp = 30 ∨ sp = 67)  (vc : gg p l e s m args below meth c G d MX12_takesBack Q 2 [some (.ref 82), some (.int 0)] [] h) : gg p l e s m args below meth c G d MX12_takesBack Q 0 [some (.ref 82), none] [] h := by
  refine go_iconst (v := 0) dX12_takesBack_0 rfl ?_
  refine go_istore_n dX12_takesBack_1 (Nat.le_of_ble_eq_true rfl) ?_
  show gg p l e s m args below meth c G d MX12_takesBack Q 2 [some (.ref 82), some (.int 0)] [] h
  exact vc
set_option maxRecDepth 20000 in
theorem wX12_takesBack_2 {p : Program} {l : Launch} {e : Env} {s : State} {m : MethodId} {args : Array Value} {below : List Frame} {meth : Method} {c : Code} {G : gG} {d : Nat} {Q : Option Value → gH → Prop} {h : gH} {lk sp : Nat} {cd : Option Nat} {x1 : Int32} (hR : h.2.2 = gRF lk sp cd) (hlk : lk = 30 ∨ lk = 67) (hsp : sp = 30 ∨ sp = 67)  (vc : ((187 ≤ x1 → Q none h) ∧ (¬ 187 ≤ x1 → (vp_in x1 187 ∧ (vp_in x1 187 ∧ gg p l e s m args below meth c G d MX12_takesBack Q 2 [some (.ref 82), some (.int (x1 + 1))] [] (sI h 133 x1.toNatClampNeg (h.1 134 x1.toNatClampNeg))))))) : gg p l e s m args below meth c G d MX12_takesBack Q 2 [some (.ref 82), some (.int x1)] [] h := by
  refine go_iload_n (x := x1) dX12_takesBack_2 rfl ?_
  refine go_sipush (v := 187) dX12_takesBack_3 rfl ?_
  refine go_icmp_ge 27 dX12_takesBack_6 rfl (fun q => ?_) (fun q => ?_)
  · replace vc := vc.1 q
    exact go_vret dX12_takesBack_27 rfl vc rfl (Nat.le_refl _) (Nat.le_refl _)
  · replace vc := vc.2 q
    refine go_aload_n (x := 82) dX12_takesBack_9 rfl ?_
    refine go_getR (x := 133) dX12_takesBack_10 f12_166 sh82 (fun _ _ => rfl) (rf82_68 hR) ?_
    refine go_iload_n (x := x1) dX12_takesBack_13 rfl ?_
    refine go_aload_n (x := 82) dX12_takesBack_14 rfl ?_
    refine go_getR (x := 134) dX12_takesBack_15 f12_169 sh82 (fun _ _ => rfl) (rf82_69 hR) ?_
    refine go_iload_n (x := x1) dX12_takesBack_18 rfl ?_
    refine go_iald' (v := (h.1 134 x1.toNatClampNeg)) dX12_takesBack_19 sh134 vc.1 rfl ?_
    have vc := vc.2
    refine go_iast dX12_takesBack_20 sh133 vc.1 ?_
    have vc := vc.2
    show gg p l e s m args below meth c G d MX12_takesBack Q 21 [some (.ref 82), some (.int x1)] [] (sI h 133 x1.toNatClampNeg (h.1 134 x1.toNatClampNeg))
    refine go_iinc (x := x1) dX12_takesBack_21 rfl ?_
    show gg p l e s m args below meth c G d MX12_takesBack Q 24 [some (.ref 82), some (.int (x1 + 1))] [] (sI h 133 x1.toNatClampNeg (h.1 134 x1.toNatClampNeg))
    refine go_goto 2 dX12_takesBack_24 rfl ?_
    exact vc
set_option maxRecDepth 20000 in
theorem wX12_sumOf_0 {p : Program} {l : Launch} {e : Env} {s : State} {m : MethodId} {args : Array Value} {below : List Frame} {meth : Method} {c : Code} {G : gG} {d : Nat} {Q : Option Value → gH → Prop} {h : gH} {lk sp : Nat} {cd : Option Nat} {a1 : Int32} (hR : h.2.2 = gRF lk sp cd) (hlk : lk = 30 ∨ lk = 67) (hsp : sp = 30 ∨ sp = 67)  (vc : gg p l e s m args below meth c G (d + 1) MX12_sumOf Q 4 [some (.ref 82), some (.int a1), some (.int 0), some (.int 0)] [] h) : gg p l e s m args below meth c G (d + 1) MX12_sumOf Q 0 [some (.ref 82), some (.int a1), none, none] [] h := by
  refine go_iconst (v := 0) dX12_sumOf_0 rfl ?_
  refine go_istore_n dX12_sumOf_1 (Nat.le_of_ble_eq_true rfl) ?_
  show gg p l e s m args below meth c G (d + 1) MX12_sumOf Q 2 [some (.ref 82), some (.int a1), some (.int 0), none] [] h
  refine go_iconst (v := 0) dX12_sumOf_2 rfl ?_
  refine go_istore_n dX12_sumOf_3 (Nat.le_of_ble_eq_true rfl) ?_
  show gg p l e s m args below meth c G (d + 1) MX12_sumOf Q 4 [some (.ref 82), some (.int a1), some (.int 0), some (.int 0)] [] h
  exact vc
set_option maxRecDepth 20000 in
theorem wX12_sumOf_4 {p : Program} {l : Launch} {e : Env} {s : State} {m : MethodId} {args : Array Value} {below : List Frame} {meth : Method} {c : Code} {G : gG} {d : Nat} {Q : Option Value → gH → Prop} {h : gH} {lk sp : Nat} {cd : Option Nat} {x1 : Int32} {x2 : Int32} {x3 : Int32} (hR : h.2.2 = gRF lk sp cd) (hlk : lk = 30 ∨ lk = 67) (hsp : sp = 30 ∨ sp = 67)  (vc : gC l G d MX12_boatMany [.ref 82] h (rI fun v1 h1 => h1.2.2 = (h).2.2 ∧ ((v1 ≤ x3 → Q (some (.int x2)) h1) ∧ (¬ v1 ≤ x3 → ((¬ x1 = 7 → gC l G d MX12_trustOf [.ref 82, .int x3] h1 (rI fun v2 h2 => h2.2.2 = (h1).2.2 ∧ gg p l e s m args below meth c G (d + 1) MX12_sumOf Q 4 [some (.ref 82), some (.int x1), some (.int (x2 + v2)), some (.int (x3 + 1))] [] h2)) ∧ (x1 = 7 → gC l G d MX12_balksOf [.ref 82, .int x3] h1 (rI fun v3 h3 => h3.2.2 = (h1).2.2 ∧ gg p l e s m args below meth c G (d + 1) MX12_sumOf Q 4 [some (.ref 82), some (.int x1), some (.int (x2 + v3)), some (.int (x3 + 1))] [] h3))))))) : gg p l e s m args below meth c G (d + 1) MX12_sumOf Q 4 [some (.ref 82), some (.int x1), some (.int x2), some (.int x3)] [] h := by
  refine go_iload_n (x := x3) dX12_sumOf_4 rfl ?_
  refine go_aload_n (x := 82) dX12_sumOf_5 rfl ?_
  refine gvI0 MX12_boatMany dX12_sumOf_6 lX12_483 kX12_boatMany vX12_boatMany sh82 (by decide) rfl (Nat.le_of_ble_eq_true rfl) vc ?_
  intro v1 h1 vc
  obtain ⟨hR1, vc⟩ := vc
  replace hR := hR1.trans hR
  refine go_icmp_ge 40 dX12_sumOf_9 rfl (fun q => ?_) (fun q => ?_)
  · replace vc := vc.1 q
    refine go_iload_n (x := x2) dX12_sumOf_40 rfl ?_
    exact go_iret dX12_sumOf_41 rfl vc rfl (Nat.le_refl _) (Nat.le_refl _)
  · replace vc := vc.2 q
    refine go_iload_n (x := x2) dX12_sumOf_12 rfl ?_
    refine go_iload_n (x := x1) dX12_sumOf_13 rfl ?_
    refine go_bipush (v := 7) dX12_sumOf_14 rfl ?_
    refine go_icmp_ne 27 dX12_sumOf_16 rfl (fun q => ?_) (fun q => ?_)
    · replace vc := vc.1 q
      refine go_aload_n (x := 82) dX12_sumOf_27 rfl ?_
      refine go_iload_n (x := x3) dX12_sumOf_28 rfl ?_
      refine gvI1 MX12_trustOf dX12_sumOf_29 lX12_522 kX12_trustOf vX12_trustOf sh82 (by decide) rfl (Nat.le_of_ble_eq_true rfl) vc ?_
      intro v2 h2 vc
      obtain ⟨hR2, vc⟩ := vc
      replace hR := hR2.trans hR
      refine go_iadd dX12_sumOf_32 ?_
      refine go_istore_n dX12_sumOf_33 (Nat.le_of_ble_eq_true rfl) ?_
      show gg p l e s m args below meth c G (d + 1) MX12_sumOf Q 34 [some (.ref 82), some (.int x1), some (.int (x2 + v2)), some (.int x3)] [] h2
      refine go_iinc (x := x3) dX12_sumOf_34 rfl ?_
      show gg p l e s m args below meth c G (d + 1) MX12_sumOf Q 37 [some (.ref 82), some (.int x1), some (.int (x2 + v2)), some (.int (x3 + 1))] [] h2
      refine go_goto 4 dX12_sumOf_37 rfl ?_
      exact vc
    · replace vc := vc.2 q
      refine go_aload_n (x := 82) dX12_sumOf_19 rfl ?_
      refine go_iload_n (x := x3) dX12_sumOf_20 rfl ?_
      refine gvI1 MX12_balksOf dX12_sumOf_21 lX12_516 kX12_balksOf vX12_balksOf sh82 (by decide) rfl (Nat.le_of_ble_eq_true rfl) vc ?_
      intro v3 h3 vc
      obtain ⟨hR3, vc⟩ := vc
      replace hR := hR3.trans hR
      refine go_goto 32 dX12_sumOf_24 rfl ?_
      refine go_iadd dX12_sumOf_32 ?_
      refine go_istore_n dX12_sumOf_33 (Nat.le_of_ble_eq_true rfl) ?_
      show gg p l e s m args below meth c G (d + 1) MX12_sumOf Q 34 [some (.ref 82), some (.int x1), some (.int (x2 + v3)), some (.int x3)] [] h3
      refine go_iinc (x := x3) dX12_sumOf_34 rfl ?_
      show gg p l e s m args below meth c G (d + 1) MX12_sumOf Q 37 [some (.ref 82), some (.int x1), some (.int (x2 + v3)), some (.int (x3 + 1))] [] h3
      refine go_goto 4 dX12_sumOf_37 rfl ?_
      exact vc
set_option maxRecDepth 20000 in
theorem wX12_has_0 {p : Program} {l : Launch} {e : Env} {s : State} {m : MethodId} {args : Array Value} {below : List Frame} {meth : Method} {c : Code} {G : gG} {d : Nat} {Q : Option Value → gH → Prop} {h : gH} {lk sp : Nat} {cd : Option Nat} {a1 : Int32} (hR : h.2.2 = gRF lk sp cd) (hlk : lk = 30 ∨ lk = 67) (hsp : sp = 30 ∨ sp = 67)  (vc : ((a1 = 0 → (vp_in ((5 + a1)) 10 ∧ Q (some (.int (h.1 119 ((5 + a1) : Int32).toNatClampNeg))) h)) ∧ (a1 = 1 → (vp_in ((5 + a1)) 10 ∧ Q (some (.int (h.1 119 ((5 + a1) : Int32).toNatClampNeg))) h)) ∧ (a1 = 2 → (vp_in ((5 + a1)) 10 ∧ Q (some (.int (h.1 119 ((5 + a1) : Int32).toNatClampNeg))) h)) ∧ (a1 = 3 → (vp_in ((5 + a1)) 10 ∧ Q (some (.int (h.1 119 ((5 + a1) : Int32).toNatClampNeg))) h)) ∧ (a1 = 4 → Q (some (.int (h.1 133 0))) h) ∧ (a1 = 5 → gC l G d MX12_skyIn [.ref 82, .int (h.1 133 0)] h (rI fun v1 h1 => h1.2.2 = (h).2.2 ∧ Q (some (.int v1)) h1)) ∧ (a1 = 6 → Q (some (.int (h.1 133 1))) h) ∧ (a1 = 7 → gC l G d MX12_sumOf [.ref 82, .int a1] h (rI fun v2 h2 => h2.2.2 = (h).2.2 ∧ Q (some (.int v2)) h2)) ∧ (a1 = 8 → gC l G d MX12_sumOf [.ref 82, .int a1] h (rI fun v3 h3 => h3.2.2 = (h).2.2 ∧ Q (some (.int v3)) h3)) ∧ (a1 = 9 → Q (some (.int (h.1 133 26))) h) ∧ (a1 = 10 → Q (some (.int (h.1 82 76))) h) ∧ (a1 = 11 → Q (some (.int (h.1 82 80))) h) ∧ (¬ a1 = 0 → ¬ a1 = 1 → ¬ a1 = 2 → ¬ a1 = 3 → ¬ a1 = 4 → ¬ a1 = 5 → ¬ a1 = 6 → ¬ a1 = 7 → ¬ a1 = 8 → ¬ a1 = 9 → ¬ a1 = 10 → ¬ a1 = 11 → Q (some (.int (-1))) h))) : gg p l e s m args below meth c G (d + 1) MX12_has Q 0 [some (.ref 82), some (.int a1)] [] h := by
  refine go_iload_n (x := a1) dX12_has_0 rfl ?_
  by_cases q0 : a1 = 0
  · refine go_tableIn (off := 63) 64 dX12_has_1 (by rw [q0]; decide) (by rw [q0]; decide) (by rw [q0]; rfl) rfl ?_
    replace vc := vc.1 q0
    refine go_aload_n (x := 82) dX12_has_64 rfl ?_
    refine go_getR (x := 119) dX12_has_65 f12_123 sh82 (fun _ _ => rfl) (rf82_46 hR) ?_
    refine go_iconst (v := 5) dX12_has_68 rfl ?_
    refine go_iload_n (x := a1) dX12_has_69 rfl ?_
    refine go_iadd dX12_has_70 ?_
    refine go_iald' (v := (h.1 119 ((5 + a1) : Int32).toNatClampNeg)) dX12_has_71 sh119 vc.1 rfl ?_
    have vc := vc.2
    exact go_iret dX12_has_72 rfl vc rfl (Nat.le_refl _) (Nat.le_refl _)
  by_cases q1 : a1 = 1
  · refine go_tableIn (off := 63) 64 dX12_has_1 (by rw [q1]; decide) (by rw [q1]; decide) (by rw [q1]; rfl) rfl ?_
    replace vc := vc.2.1 q1
    refine go_aload_n (x := 82) dX12_has_64 rfl ?_
    refine go_getR (x := 119) dX12_has_65 f12_123 sh82 (fun _ _ => rfl) (rf82_46 hR) ?_
    refine go_iconst (v := 5) dX12_has_68 rfl ?_
    refine go_iload_n (x := a1) dX12_has_69 rfl ?_
    refine go_iadd dX12_has_70 ?_
    refine go_iald' (v := (h.1 119 ((5 + a1) : Int32).toNatClampNeg)) dX12_has_71 sh119 vc.1 rfl ?_
    have vc := vc.2
    exact go_iret dX12_has_72 rfl vc rfl (Nat.le_refl _) (Nat.le_refl _)
  by_cases q2 : a1 = 2
  · refine go_tableIn (off := 63) 64 dX12_has_1 (by rw [q2]; decide) (by rw [q2]; decide) (by rw [q2]; rfl) rfl ?_
    replace vc := vc.2.2.1 q2
    refine go_aload_n (x := 82) dX12_has_64 rfl ?_
    refine go_getR (x := 119) dX12_has_65 f12_123 sh82 (fun _ _ => rfl) (rf82_46 hR) ?_
    refine go_iconst (v := 5) dX12_has_68 rfl ?_
    refine go_iload_n (x := a1) dX12_has_69 rfl ?_
    refine go_iadd dX12_has_70 ?_
    refine go_iald' (v := (h.1 119 ((5 + a1) : Int32).toNatClampNeg)) dX12_has_71 sh119 vc.1 rfl ?_
    have vc := vc.2
    exact go_iret dX12_has_72 rfl vc rfl (Nat.le_refl _) (Nat.le_refl _)
  by_cases q3 : a1 = 3
  · refine go_tableIn (off := 63) 64 dX12_has_1 (by rw [q3]; decide) (by rw [q3]; decide) (by rw [q3]; rfl) rfl ?_
    replace vc := vc.2.2.2.1 q3
    refine go_aload_n (x := 82) dX12_has_64 rfl ?_
    refine go_getR (x := 119) dX12_has_65 f12_123 sh82 (fun _ _ => rfl) (rf82_46 hR) ?_
    refine go_iconst (v := 5) dX12_has_68 rfl ?_
    refine go_iload_n (x := a1) dX12_has_69 rfl ?_
    refine go_iadd dX12_has_70 ?_
    refine go_iald' (v := (h.1 119 ((5 + a1) : Int32).toNatClampNeg)) dX12_has_71 sh119 vc.1 rfl ?_
    have vc := vc.2
    exact go_iret dX12_has_72 rfl vc rfl (Nat.le_refl _) (Nat.le_refl _)
  by_cases q4 : a1 = 4
  · refine go_tableIn (off := 72) 73 dX12_has_1 (by rw [q4]; decide) (by rw [q4]; decide) (by rw [q4]; rfl) rfl ?_
    replace vc := vc.2.2.2.2.1 q4
    refine go_aload_n (x := 82) dX12_has_73 rfl ?_
    refine go_getR (x := 133) dX12_has_74 f12_166 sh82 (fun _ _ => rfl) (rf82_68 hR) ?_
    refine go_iconst (v := 0) dX12_has_77 rfl ?_
    refine go_iald' (v := (h.1 133 0)) dX12_has_78 sh133 (by unfold vp_in; decide) rfl ?_
    exact go_iret dX12_has_79 rfl vc rfl (Nat.le_refl _) (Nat.le_refl _)
  by_cases q5 : a1 = 5
  · refine go_tableIn (off := 79) 80 dX12_has_1 (by rw [q5]; decide) (by rw [q5]; decide) (by rw [q5]; rfl) rfl ?_
    replace vc := vc.2.2.2.2.2.1 q5
    refine go_aload_n (x := 82) dX12_has_80 rfl ?_
    refine go_aload_n (x := 82) dX12_has_81 rfl ?_
    refine go_getR (x := 133) dX12_has_82 f12_166 sh82 (fun _ _ => rfl) (rf82_68 hR) ?_
    refine go_iconst (v := 0) dX12_has_85 rfl ?_
    refine go_iald' (v := (h.1 133 0)) dX12_has_86 sh133 (by unfold vp_in; decide) rfl ?_
    refine gvI1 MX12_skyIn dX12_has_87 lX12_513 kX12_skyIn vX12_skyIn sh82 (by decide) rfl (Nat.le_of_ble_eq_true rfl) vc ?_
    intro v1 h1 vc
    obtain ⟨hR1, vc⟩ := vc
    replace hR := hR1.trans hR
    exact go_iret dX12_has_90 rfl vc rfl (Nat.le_refl _) (Nat.le_refl _)
  by_cases q6 : a1 = 6
  · refine go_tableIn (off := 90) 91 dX12_has_1 (by rw [q6]; decide) (by rw [q6]; decide) (by rw [q6]; rfl) rfl ?_
    replace vc := vc.2.2.2.2.2.2.1 q6
    refine go_aload_n (x := 82) dX12_has_91 rfl ?_
    refine go_getR (x := 133) dX12_has_92 f12_166 sh82 (fun _ _ => rfl) (rf82_68 hR) ?_
    refine go_iconst (v := 1) dX12_has_95 rfl ?_
    refine go_iald' (v := (h.1 133 1)) dX12_has_96 sh133 (by unfold vp_in; decide) rfl ?_
    exact go_iret dX12_has_97 rfl vc rfl (Nat.le_refl _) (Nat.le_refl _)
  by_cases q7 : a1 = 7
  · refine go_tableIn (off := 97) 98 dX12_has_1 (by rw [q7]; decide) (by rw [q7]; decide) (by rw [q7]; rfl) rfl ?_
    replace vc := vc.2.2.2.2.2.2.2.1 q7
    refine go_aload_n (x := 82) dX12_has_98 rfl ?_
    refine go_iload_n (x := a1) dX12_has_99 rfl ?_
    refine gvI1 MX12_sumOf dX12_has_100 lX12_559 kX12_sumOf vX12_sumOf sh82 (by decide) rfl (Nat.le_of_ble_eq_true rfl) vc ?_
    intro v2 h2 vc
    obtain ⟨hR2, vc⟩ := vc
    replace hR := hR2.trans hR
    exact go_iret dX12_has_103 rfl vc rfl (Nat.le_refl _) (Nat.le_refl _)
  by_cases q8 : a1 = 8
  · refine go_tableIn (off := 97) 98 dX12_has_1 (by rw [q8]; decide) (by rw [q8]; decide) (by rw [q8]; rfl) rfl ?_
    replace vc := vc.2.2.2.2.2.2.2.2.1 q8
    refine go_aload_n (x := 82) dX12_has_98 rfl ?_
    refine go_iload_n (x := a1) dX12_has_99 rfl ?_
    refine gvI1 MX12_sumOf dX12_has_100 lX12_559 kX12_sumOf vX12_sumOf sh82 (by decide) rfl (Nat.le_of_ble_eq_true rfl) vc ?_
    intro v3 h3 vc
    obtain ⟨hR3, vc⟩ := vc
    replace hR := hR3.trans hR
    exact go_iret dX12_has_103 rfl vc rfl (Nat.le_refl _) (Nat.le_refl _)
  by_cases q9 : a1 = 9
  · refine go_tableIn (off := 103) 104 dX12_has_1 (by rw [q9]; decide) (by rw [q9]; decide) (by rw [q9]; rfl) rfl ?_
    replace vc := vc.2.2.2.2.2.2.2.2.2.1 q9
    refine go_aload_n (x := 82) dX12_has_104 rfl ?_
    refine go_getR (x := 133) dX12_has_105 f12_166 sh82 (fun _ _ => rfl) (rf82_68 hR) ?_
    refine go_bipush (v := 26) dX12_has_108 rfl ?_
    refine go_iald' (v := (h.1 133 26)) dX12_has_110 sh133 (by unfold vp_in; decide) rfl ?_
    exact go_iret dX12_has_111 rfl vc rfl (Nat.le_refl _) (Nat.le_refl _)
  by_cases q10 : a1 = 10
  · refine go_tableIn (off := 111) 112 dX12_has_1 (by rw [q10]; decide) (by rw [q10]; decide) (by rw [q10]; rfl) rfl ?_
    replace vc := vc.2.2.2.2.2.2.2.2.2.2.1 q10
    refine go_aload_n (x := 82) dX12_has_112 rfl ?_
    refine go_getI' (v := (h.1 82 76)) dX12_has_113 f12_428 sh82 (fun _ _ => rfl) rfl ?_
    exact go_iret dX12_has_116 rfl vc rfl (Nat.le_refl _) (Nat.le_refl _)
  by_cases q11 : a1 = 11
  · refine go_tableIn (off := 116) 117 dX12_has_1 (by rw [q11]; decide) (by rw [q11]; decide) (by rw [q11]; rfl) rfl ?_
    replace vc := vc.2.2.2.2.2.2.2.2.2.2.2.1 q11
    refine go_aload_n (x := 82) dX12_has_117 rfl ?_
    refine go_getI' (v := (h.1 82 80)) dX12_has_118 f12_425 sh82 (fun _ _ => rfl) rfl ?_
    exact go_iret dX12_has_121 rfl vc rfl (Nat.le_refl _) (Nat.le_refl _)
  replace vc := vc.2.2.2.2.2.2.2.2.2.2.2.2 q0 q1 q2 q3 q4 q5 q6 q7 q8 q9 q10 q11
  refine go_tableOut 122 dX12_has_1 ?_ rfl ?_
  · have e0 : ¬ (a1).toInt = 0 := lv_neT q0 rfl; have e1 : ¬ (a1).toInt = 1 := lv_neT q1 rfl; have e2 : ¬ (a1).toInt = 2 := lv_neT q2 rfl; have e3 : ¬ (a1).toInt = 3 := lv_neT q3 rfl; have e4 : ¬ (a1).toInt = 4 := lv_neT q4 rfl; have e5 : ¬ (a1).toInt = 5 := lv_neT q5 rfl; have e6 : ¬ (a1).toInt = 6 := lv_neT q6 rfl; have e7 : ¬ (a1).toInt = 7 := lv_neT q7 rfl; have e8 : ¬ (a1).toInt = 8 := lv_neT q8 rfl; have e9 : ¬ (a1).toInt = 9 := lv_neT q9 rfl; have e10 : ¬ (a1).toInt = 10 := lv_neT q10 rfl; have e11 : ¬ (a1).toInt = 11 := lv_neT q11 rfl
    omega
  refine go_iconst (v := (-1)) dX12_has_122 rfl ?_
  exact go_iret dX12_has_123 rfl vc rfl (Nat.le_refl _) (Nat.le_refl _)
set_option maxRecDepth 20000 in
theorem wX12_letter_0 {p : Program} {l : Launch} {e : Env} {s : State} {m : MethodId} {args : Array Value} {below : List Frame} {meth : Method} {c : Code} {G : gG} {d : Nat} {Q : Option Value → gH → Prop} {h : gH} {lk sp : Nat} {cd : Option Nat} {a1 : Int32} {a2 : Int32} {a3 : Int32} (hR : h.2.2 = gRF lk sp cd) (hlk : lk = 30 ∨ lk = 67) (hsp : sp = 30 ∨ sp = 67)  (vc : gC l G d MX12_isIn [.long (a1 : Int32).toInt64, .long 0, .long 1] h (rI fun v1 h1 => h1.2.2 = (h).2.2 ∧ ((v1 = 0 → Q (some (.int (-1))) h1) ∧ (¬ v1 = 0 → (vp_in ((7 + a1)) 10 ∧ gC l G d MX12_isIn [.long (a2 : Int32).toInt64, .long 0, .long (((h1.1 119 ((7 + a1) : Int32).toNatClampNeg) - 1) : Int32).toInt64] h1 (rI fun v2 h2 => h2.2.2 = (h1).2.2 ∧ ((v2 = 0 → Q (some (.int (-1))) h2) ∧ (¬ v2 = 0 → gC l G d MX12_isIn [.long (a3 : Int32).toInt64, .long 0, .long 5] h2 (rI fun v3 h3 => h3.2.2 = (h2).2.2 ∧ ((¬ v3 = 0 → (vp_in (((12 + (6 * a1)) + a2)) 24 ∧ gg p l e s m args below meth c G (d + 1) MX12_letter Q 68 [some (.ref 82), some (.int a1), some (.int a2), some (.int a3), some (.long (h3.2.1 120 (((12 + (6 * a1)) + a2) : Int32).toNatClampNeg)), none, some (.int 0), some (.long (h3.2.1 120 (((12 + (6 * a1)) + a2) : Int32).toNatClampNeg)), none] [] h3)) ∧ (v3 = 0 → Q (some (.int (-1))) h3))))))))))) : gg p l e s m args below meth c G (d + 1) MX12_letter Q 0 [some (.ref 82), some (.int a1), some (.int a2), some (.int a3), none, none, none, none, none] [] h := by
  refine go_iload_n (x := a1) dX12_letter_0 rfl ?_
  refine go_i2l dX12_letter_1 ?_
  refine go_lconst (v := 0) dX12_letter_2 rfl ?_
  refine go_lconst (v := 1) dX12_letter_3 rfl ?_
  refine gsI3 MX12_isIn dX12_letter_4 lX12_321 kX12_isIn sX12_isIn (Nat.le_of_ble_eq_true rfl) vc ?_
  intro v1 h1 vc
  obtain ⟨hR1, vc⟩ := vc
  replace hR := hR1.trans hR
  refine go_if_eq 43 dX12_letter_7 rfl (fun q => ?_) (fun q => ?_)
  · replace vc := vc.1 q
    refine go_iconst (v := (-1)) dX12_letter_43 rfl ?_
    exact go_iret dX12_letter_44 rfl vc rfl (Nat.le_refl _) (Nat.le_refl _)
  · replace vc := vc.2 q
    refine go_iload_n (x := a2) dX12_letter_10 rfl ?_
    refine go_i2l dX12_letter_11 ?_
    refine go_lconst (v := 0) dX12_letter_12 rfl ?_
    refine go_aload_n (x := 82) dX12_letter_13 rfl ?_
    refine go_getR (x := 119) dX12_letter_14 f12_123 sh82 (fun _ _ => rfl) (rf82_46 hR) ?_
    refine go_bipush (v := 7) dX12_letter_17 rfl ?_
    refine go_iload_n (x := a1) dX12_letter_19 rfl ?_
    refine go_iadd dX12_letter_20 ?_
    refine go_iald' (v := (h1.1 119 ((7 + a1) : Int32).toNatClampNeg)) dX12_letter_21 sh119 vc.1 rfl ?_
    have vc := vc.2
    refine go_iconst (v := 1) dX12_letter_22 rfl ?_
    refine go_isub dX12_letter_23 ?_
    refine go_i2l dX12_letter_24 ?_
    refine gsI3 MX12_isIn dX12_letter_25 lX12_321 kX12_isIn sX12_isIn (Nat.le_of_ble_eq_true rfl) vc ?_
    intro v2 h2 vc
    obtain ⟨hR2, vc⟩ := vc
    replace hR := hR2.trans hR
    refine go_if_eq 43 dX12_letter_28 rfl (fun q => ?_) (fun q => ?_)
    · replace vc := vc.1 q
      refine go_iconst (v := (-1)) dX12_letter_43 rfl ?_
      exact go_iret dX12_letter_44 rfl vc rfl (Nat.le_refl _) (Nat.le_refl _)
    · replace vc := vc.2 q
      refine go_iload_n (x := a3) dX12_letter_31 rfl ?_
      refine go_i2l dX12_letter_32 ?_
      refine go_lconst (v := 0) dX12_letter_33 rfl ?_
      refine go_ldc2 (v := 5) dX12_letter_34 nX12_562 ?_
      refine gsI3 MX12_isIn dX12_letter_37 lX12_321 kX12_isIn sX12_isIn (Nat.le_of_ble_eq_true rfl) vc ?_
      intro v3 h3 vc
      obtain ⟨hR3, vc⟩ := vc
      replace hR := hR3.trans hR
      refine go_if_ne 45 dX12_letter_40 rfl (fun q => ?_) (fun q => ?_)
      · replace vc := vc.1 q
        refine go_aload_n (x := 82) dX12_letter_45 rfl ?_
        refine go_getR (x := 120) dX12_letter_46 f12_126 sh82 (fun _ _ => rfl) (rf82_47 hR) ?_
        refine go_bipush (v := 12) dX12_letter_49 rfl ?_
        refine go_bipush (v := 6) dX12_letter_51 rfl ?_
        refine go_iload_n (x := a1) dX12_letter_53 rfl ?_
        refine go_imul dX12_letter_54 ?_
        refine go_iadd dX12_letter_55 ?_
        refine go_iload_n (x := a2) dX12_letter_56 rfl ?_
        refine go_iadd dX12_letter_57 ?_
        refine go_lald' (v := (h3.2.1 120 (((12 + (6 * a1)) + a2) : Int32).toNatClampNeg)) dX12_letter_58 sh120 vc.1 rfl ?_
        have vc := vc.2
        refine go_lstore dX12_letter_59 (Nat.le_of_ble_eq_true rfl) ?_
        show gg p l e s m args below meth c G (d + 1) MX12_letter Q 61 [some (.ref 82), some (.int a1), some (.int a2), some (.int a3), some (.long (h3.2.1 120 (((12 + (6 * a1)) + a2) : Int32).toNatClampNeg)), none, none, none, none] [] h3
        refine go_iconst (v := 0) dX12_letter_61 rfl ?_
        refine go_istore dX12_letter_62 (Nat.le_of_ble_eq_true rfl) ?_
        show gg p l e s m args below meth c G (d + 1) MX12_letter Q 64 [some (.ref 82), some (.int a1), some (.int a2), some (.int a3), some (.long (h3.2.1 120 (((12 + (6 * a1)) + a2) : Int32).toNatClampNeg)), none, some (.int 0), none, none] [] h3
        refine go_lload (x := (h3.2.1 120 (((12 + (6 * a1)) + a2) : Int32).toNatClampNeg)) dX12_letter_64 rfl ?_
        refine go_lstore dX12_letter_66 (Nat.le_of_ble_eq_true rfl) ?_
        show gg p l e s m args below meth c G (d + 1) MX12_letter Q 68 [some (.ref 82), some (.int a1), some (.int a2), some (.int a3), some (.long (h3.2.1 120 (((12 + (6 * a1)) + a2) : Int32).toNatClampNeg)), none, some (.int 0), some (.long (h3.2.1 120 (((12 + (6 * a1)) + a2) : Int32).toNatClampNeg)), none] [] h3
        exact vc
      · replace vc := vc.2 q
        refine go_iconst (v := (-1)) dX12_letter_43 rfl ?_
        exact go_iret dX12_letter_44 rfl vc rfl (Nat.le_refl _) (Nat.le_refl _)
set_option maxRecDepth 20000 in
theorem wX12_letter_68 {p : Program} {l : Launch} {e : Env} {s : State} {m : MethodId} {args : Array Value} {below : List Frame} {meth : Method} {c : Code} {G : gG} {d : Nat} {Q : Option Value → gH → Prop} {h : gH} {lk sp : Nat} {cd : Option Nat} {x1 : Int32} {x2 : Int32} {x3 : Int32} {x4 : Int64} {x6 : Int32} {x7 : Int64} (hR : h.2.2 = gRF lk sp cd) (hlk : lk = 30 ∨ lk = 67) (hsp : sp = 30 ∨ sp = 67)  (vc : (((lg_cmp x7 0) ≤ 0 → ((x3 < x6 → gg p l e s m args below meth c G (d + 1) MX12_letter Q 103 [some (.ref 82), some (.int x1), some (.int x2), some (.int x3), some (.long x4), none, some (.int x6), some (.int (x6 - 1)), none] [] h) ∧ (¬ x3 < x6 → Q (some (.int 0)) h))) ∧ (¬ (lg_cmp x7 0) ≤ 0 → gg p l e s m args below meth c G (d + 1) MX12_letter Q 68 [some (.ref 82), some (.int x1), some (.int x2), some (.int x3), some (.long x4), none, some (.int (x6 + 1)), some (.long (x7 / 27)), none] [] h))) : gg p l e s m args below meth c G (d + 1) MX12_letter Q 68 [some (.ref 82), some (.int x1), some (.int x2), some (.int x3), some (.long x4), none, some (.int x6), some (.long x7), none] [] h := by
  refine go_lload (x := x7) dX12_letter_68 rfl ?_
  refine go_lconst (v := 0) dX12_letter_70 rfl ?_
  refine go_lcmp dX12_letter_71 ?_
  refine go_if_le 89 dX12_letter_72 rfl (fun q => ?_) (fun q => ?_)
  · replace vc := vc.1 q
    refine go_iload_n (x := x3) dX12_letter_89 rfl ?_
    refine go_iload (x := x6) dX12_letter_90 rfl ?_
    refine go_icmp_lt 97 dX12_letter_92 rfl (fun q => ?_) (fun q => ?_)
    · replace vc := vc.1 q
      refine go_iload (x := x6) dX12_letter_97 rfl ?_
      refine go_iconst (v := 1) dX12_letter_99 rfl ?_
      refine go_isub dX12_letter_100 ?_
      refine go_istore dX12_letter_101 (Nat.le_of_ble_eq_true rfl) ?_
      show gg p l e s m args below meth c G (d + 1) MX12_letter Q 103 [some (.ref 82), some (.int x1), some (.int x2), some (.int x3), some (.long x4), none, some (.int x6), some (.int (x6 - 1)), none] [] h
      exact vc
    · replace vc := vc.2 q
      refine go_iconst (v := 0) dX12_letter_95 rfl ?_
      exact go_iret dX12_letter_96 rfl vc rfl (Nat.le_refl _) (Nat.le_refl _)
  · replace vc := vc.2 q
    refine go_iinc (x := x6) dX12_letter_75 rfl ?_
    show gg p l e s m args below meth c G (d + 1) MX12_letter Q 78 [some (.ref 82), some (.int x1), some (.int x2), some (.int x3), some (.long x4), none, some (.int (x6 + 1)), some (.long x7), none] [] h
    refine go_lload (x := x7) dX12_letter_78 rfl ?_
    refine go_ldc2 (v := 27) dX12_letter_80 nX12_332 ?_
    refine go_ldiv dX12_letter_83 (by decide) ?_
    refine go_lstore dX12_letter_84 (Nat.le_of_ble_eq_true rfl) ?_
    show gg p l e s m args below meth c G (d + 1) MX12_letter Q 86 [some (.ref 82), some (.int x1), some (.int x2), some (.int x3), some (.long x4), none, some (.int (x6 + 1)), some (.long (x7 / 27)), none] [] h
    refine go_goto 68 dX12_letter_86 rfl ?_
    exact vc
set_option maxRecDepth 20000 in
theorem wX12_letter_103 {p : Program} {l : Launch} {e : Env} {s : State} {m : MethodId} {args : Array Value} {below : List Frame} {meth : Method} {c : Code} {G : gG} {d : Nat} {Q : Option Value → gH → Prop} {h : gH} {lk sp : Nat} {cd : Option Nat} {x1 : Int32} {x2 : Int32} {x3 : Int32} {x4 : Int64} {x6 : Int32} {x7 : Int32} (hR : h.2.2 = gRF lk sp cd) (hlk : lk = 30 ∨ lk = 67) (hsp : sp = 30 ∨ sp = 67)  (vc : ((x7 ≤ x3 → Q (some (.int ((x4 - x4 / 27 * 27) : Int64).toInt32)) h) ∧ (¬ x7 ≤ x3 → gg p l e s m args below meth c G (d + 1) MX12_letter Q 103 [some (.ref 82), some (.int x1), some (.int x2), some (.int x3), some (.long (x4 / 27)), none, some (.int x6), some (.int (x7 + (-1))), none] [] h))) : gg p l e s m args below meth c G (d + 1) MX12_letter Q 103 [some (.ref 82), some (.int x1), some (.int x2), some (.int x3), some (.long x4), none, some (.int x6), some (.int x7), none] [] h := by
  refine go_iload (x := x7) dX12_letter_103 rfl ?_
  refine go_iload_n (x := x3) dX12_letter_105 rfl ?_
  refine go_icmp_le 123 dX12_letter_106 rfl (fun q => ?_) (fun q => ?_)
  · replace vc := vc.1 q
    refine go_lload (x := x4) dX12_letter_123 rfl ?_
    refine go_ldc2 (v := 27) dX12_letter_125 nX12_332 ?_
    refine go_lrem dX12_letter_128 (by decide) ?_
    refine go_l2i dX12_letter_129 ?_
    exact go_iret dX12_letter_130 rfl vc rfl (Nat.le_refl _) (Nat.le_refl _)
  · replace vc := vc.2 q
    refine go_lload (x := x4) dX12_letter_109 rfl ?_
    refine go_ldc2 (v := 27) dX12_letter_111 nX12_332 ?_
    refine go_ldiv dX12_letter_114 (by decide) ?_
    refine go_lstore dX12_letter_115 (Nat.le_of_ble_eq_true rfl) ?_
    show gg p l e s m args below meth c G (d + 1) MX12_letter Q 117 [some (.ref 82), some (.int x1), some (.int x2), some (.int x3), some (.long (x4 / 27)), none, some (.int x6), some (.int x7), none] [] h
    refine go_iinc (x := x7) dX12_letter_117 rfl ?_
    show gg p l e s m args below meth c G (d + 1) MX12_letter Q 120 [some (.ref 82), some (.int x1), some (.int x2), some (.int x3), some (.long (x4 / 27)), none, some (.int x6), some (.int (x7 + (-1))), none] [] h
    refine go_goto 103 dX12_letter_120 rfl ?_
    exact vc
