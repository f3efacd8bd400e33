set_option maxRecDepth 20000 in
theorem wX12_behindIt_0 {p : Program} {l : Launch} {e : Env} {s : State} {m : MethodId} {args : Array Value} {below : List Frame} {meth : Method} {c : Code} {G : gG} {d : Nat} {Q : Option Value → gH → Prop} {h : gH} {lk sp : Nat} {cd : Option Nat} {a1 : Int32} {a2 : Int32} {a3 : Int32} (hR : h.2.2 = gRF lk sp cd) (hlk : lk = 30 ∨ lk = 67) (hsp : sp = 30 ∨ sp = 67)  (vc : gC l G d MX12_learnt [.ref 82, .int a2, .int a3, .int (-1), .int 1] h (rI fun v1 h1 => h1.2.2 = (h).2.2 ∧ gg p l e s m args below meth c G (d + 1) MX12_behindIt Q 16 [some (.ref 82), some (.int a1), some (.int a2), some (.int a3), some (.int v1), some (.int 1), some (.int 0)] [] h1)) : gg p l e s m args below meth c G (d + 1) MX12_behindIt Q 0 [some (.ref 82), some (.int a1), some (.int a2), some (.int a3), none, none, none] [] h := by
  refine go_aload_n (x := 82) dX12_behindIt_0 rfl ?_
  refine go_iload_n (x := a2) dX12_behindIt_1 rfl ?_
  refine go_iload_n (x := a3) dX12_behindIt_2 rfl ?_
  refine go_iconst (v := (-1)) dX12_behindIt_3 rfl ?_
  refine go_iconst (v := 1) dX12_behindIt_4 rfl ?_
  refine gvI4 MX12_learnt dX12_behindIt_5 lX12_548 kX12_learnt vX12_learnt sh82 (by decide) rfl (Nat.le_of_ble_eq_true rfl) vc ?_
  intro v1 h1 vc
  obtain ⟨hR1, vc⟩ := vc
  replace hR := hR1.trans hR
  refine go_istore dX12_behindIt_8 (Nat.le_of_ble_eq_true rfl) ?_
  show gg p l e s m args below meth c G (d + 1) MX12_behindIt Q 10 [some (.ref 82), some (.int a1), some (.int a2), some (.int a3), some (.int v1), none, none] [] h1
  refine go_iconst (v := 1) dX12_behindIt_10 rfl ?_
  refine go_istore dX12_behindIt_11 (Nat.le_of_ble_eq_true rfl) ?_
  show gg p l e s m args below meth c G (d + 1) MX12_behindIt Q 13 [some (.ref 82), some (.int a1), some (.int a2), some (.int a3), some (.int v1), some (.int 1), none] [] h1
  refine go_iconst (v := 0) dX12_behindIt_13 rfl ?_
  refine go_istore dX12_behindIt_14 (Nat.le_of_ble_eq_true rfl) ?_
  show gg p l e s m args below meth c G (d + 1) MX12_behindIt Q 16 [some (.ref 82), some (.int a1), some (.int a2), some (.int a3), some (.int v1), some (.int 1), some (.int 0)] [] h1
  exact vc
set_option maxRecDepth 20000 in
theorem wX12_behindIt_16 {p : Program} {l : Launch} {e : Env} {s : State} {m : MethodId} {args : Array Value} {below : List Frame} {meth : Method} {c : Code} {G : gG} {d : Nat} {Q : Option Value → gH → Prop} {h : gH} {lk sp : Nat} {cd : Option Nat} {x1 : Int32} {x2 : Int32} {x3 : Int32} {x4 : Int32} {x5 : Int32} {x6 : Int32} (hR : h.2.2 = gRF lk sp cd) (hlk : lk = 30 ∨ lk = 67) (hsp : sp = 30 ∨ sp = 67)  (vc : gC l G d MX12_boatMany [.ref 82] h (rI fun v1 h1 => h1.2.2 = (h).2.2 ∧ ((v1 ≤ x6 → Q (some (.int x5)) h1) ∧ (¬ v1 ≤ x6 → ((x6 = x2 → gg p l e s m args below meth c G (d + 1) MX12_behindIt Q 16 [some (.ref 82), some (.int x1), some (.int x2), some (.int x3), some (.int x4), some (.int x5), some (.int (x6 + 1))] [] h1) ∧ (¬ x6 = x2 → ((¬ ((x1 >>> (x6 &&& 31)) &&& 1) = 1 → gg p l e s m args below meth c G (d + 1) MX12_behindIt Q 16 [some (.ref 82), some (.int x1), some (.int x2), some (.int x3), some (.int x4), some (.int x5), some (.int (x6 + 1))] [] h1) ∧ (((x1 >>> (x6 &&& 31)) &&& 1) = 1 → gC l G d MX12_wouldGo [.ref 82, .int x6, .int x3, .int x4] h1 (rI fun v2 h2 => h2.2.2 = (h1).2.2 ∧ ((v2 = 0 → gg p l e s m args below meth c G (d + 1) MX12_behindIt Q 16 [some (.ref 82), some (.int x1), some (.int x2), some (.int x3), some (.int x4), some (.int x5), some (.int (x6 + 1))] [] h2) ∧ (¬ v2 = 0 → gg p l e s m args below meth c G (d + 1) MX12_behindIt Q 16 [some (.ref 82), some (.int x1), some (.int x2), some (.int x3), some (.int x4), some (.int (x5 + 1)), some (.int (x6 + 1))] [] h2))))))))))) : gg p l e s m args below meth c G (d + 1) MX12_behindIt Q 16 [some (.ref 82), some (.int x1), some (.int x2), some (.int x3), some (.int x4), some (.int x5), some (.int x6)] [] h := by
  refine go_iload (x := x6) dX12_behindIt_16 rfl ?_
  refine go_aload_n (x := 82) dX12_behindIt_18 rfl ?_
  refine gvI0 MX12_boatMany dX12_behindIt_19 lX12_483 kX12_boatMany vX12_boatMany sh82 (by decide) rfl (Nat.le_of_ble_eq_true rfl) vc ?_
  intro v1 h1 vc
  obtain ⟨hR1, vc⟩ := vc
  replace hR := hR1.trans hR
  refine go_icmp_ge 62 dX12_behindIt_22 rfl (fun q => ?_) (fun q => ?_)
  · replace vc := vc.1 q
    refine go_iload (x := x5) dX12_behindIt_62 rfl ?_
    exact go_iret dX12_behindIt_64 rfl vc rfl (Nat.le_refl _) (Nat.le_refl _)
  · replace vc := vc.2 q
    refine go_iload (x := x6) dX12_behindIt_25 rfl ?_
    refine go_iload_n (x := x2) dX12_behindIt_27 rfl ?_
    refine go_icmp_eq 56 dX12_behindIt_28 rfl (fun q => ?_) (fun q => ?_)
    · replace vc := vc.1 q
      refine go_iinc (x := x6) dX12_behindIt_56 rfl ?_
      show gg p l e s m args below meth c G (d + 1) MX12_behindIt Q 59 [some (.ref 82), some (.int x1), some (.int x2), some (.int x3), some (.int x4), some (.int x5), some (.int (x6 + 1))] [] h1
      refine go_goto 16 dX12_behindIt_59 rfl ?_
      exact vc
    · replace vc := vc.2 q
      refine go_iload_n (x := x1) dX12_behindIt_31 rfl ?_
      refine go_iload (x := x6) dX12_behindIt_32 rfl ?_
      refine go_ishr dX12_behindIt_34 ?_
      refine go_iconst (v := 1) dX12_behindIt_35 rfl ?_
      refine go_iand dX12_behindIt_36 ?_
      refine go_iconst (v := 1) dX12_behindIt_37 rfl ?_
      refine go_icmp_ne 56 dX12_behindIt_38 rfl (fun q => ?_) (fun q => ?_)
      · replace vc := vc.1 q
        refine go_iinc (x := x6) dX12_behindIt_56 rfl ?_
        show gg p l e s m args below meth c G (d + 1) MX12_behindIt Q 59 [some (.ref 82), some (.int x1), some (.int x2), some (.int x3), some (.int x4), some (.int x5), some (.int (x6 + 1))] [] h1
        refine go_goto 16 dX12_behindIt_59 rfl ?_
        exact vc
      · replace vc := vc.2 q
        refine go_aload_n (x := 82) dX12_behindIt_41 rfl ?_
        refine go_iload (x := x6) dX12_behindIt_42 rfl ?_
        refine go_iload_n (x := x3) dX12_behindIt_44 rfl ?_
        refine go_iload (x := x4) dX12_behindIt_45 rfl ?_
        refine gvI3 MX12_wouldGo dX12_behindIt_47 lX12_545 kX12_wouldGo vX12_wouldGo sh82 (by decide) rfl (Nat.le_of_ble_eq_true rfl) vc ?_
        intro v2 h2 vc
        obtain ⟨hR2, vc⟩ := vc
        replace hR := hR2.trans hR
        refine go_if_eq 56 dX12_behindIt_50 rfl (fun q => ?_) (fun q => ?_)
        · replace vc := vc.1 q
          refine go_iinc (x := x6) dX12_behindIt_56 rfl ?_
          show gg p l e s m args below meth c G (d + 1) MX12_behindIt Q 59 [some (.ref 82), some (.int x1), some (.int x2), some (.int x3), some (.int x4), some (.int x5), some (.int (x6 + 1))] [] h2
          refine go_goto 16 dX12_behindIt_59 rfl ?_
          exact vc
        · replace vc := vc.2 q
          refine go_iinc (x := x5) dX12_behindIt_53 rfl ?_
          show gg p l e s m args below meth c G (d + 1) MX12_behindIt Q 56 [some (.ref 82), some (.int x1), some (.int x2), some (.int x3), some (.int x4), some (.int (x5 + 1)), some (.int x6)] [] h2
          refine go_iinc (x := x6) dX12_behindIt_56 rfl ?_
          show gg p l e s m args below meth c G (d + 1) MX12_behindIt Q 59 [some (.ref 82), some (.int x1), some (.int x2), some (.int x3), some (.int x4), some (.int (x5 + 1)), some (.int (x6 + 1))] [] h2
          refine go_goto 16 dX12_behindIt_59 rfl ?_
          exact vc
set_option maxRecDepth 20000 in
theorem wX12_lead_0 {p : Program} {l : Launch} {e : Env} {s : State} {m : MethodId} {args : Array Value} {below : List Frame} {meth : Method} {c : Code} {G : gG} {d : Nat} {Q : Option Value → gH → Prop} {h : gH} {lk sp : Nat} {cd : Option Nat} {a1 : Int32} {a2 : Int32} {a3 : Int32} (hR : h.2.2 = gRF lk sp cd) (hlk : lk = 30 ∨ lk = 67) (hsp : sp = 30 ∨ sp = 67)  (vc : gC l G d MX12_canFile [.ref 82, .int a1, .int a2] h (rI fun v1 h1 => h1.2.2 = (h).2.2 ∧ ((v1 = 0 → Q (some (.int (-1))) h1) ∧ (¬ v1 = 0 → gC l G d MX12_isIn [.long (a3 : Int32).toInt64, .long 0, .long 1] h1 (rI fun v2 h2 => h2.2.2 = (h1).2.2 ∧ ((¬ v2 = 0 → gg p l e s m args below meth c G (d + 1) MX12_lead Q 30 [some (.ref 82), some (.int a1), some (.int a2), some (.int a3), some (.int (-1)), some (.int (-1)), some (.int 0), none] [] h2) ∧ (v2 = 0 → Q (some (.int (-1))) h2))))))) : gg p l e s m args below meth c G (d + 1) MX12_lead Q 0 [some (.ref 82), some (.int a1), some (.int a2), some (.int a3), none, none, none, none] [] h := by
  refine go_aload_n (x := 82) dX12_lead_0 rfl ?_
  refine go_iload_n (x := a1) dX12_lead_1 rfl ?_
  refine go_iload_n (x := a2) dX12_lead_2 rfl ?_
  refine gvI2 MX12_canFile dX12_lead_3 lX12_615 kX12_canFile vX12_canFile sh82 (by decide) rfl (Nat.le_of_ble_eq_true rfl) vc ?_
  intro v1 h1 vc
  obtain ⟨hR1, vc⟩ := vc
  replace hR := hR1.trans hR
  refine go_if_eq 19 dX12_lead_6 rfl (fun q => ?_) (fun q => ?_)
  · replace vc := vc.1 q
    refine go_iconst (v := (-1)) dX12_lead_19 rfl ?_
    exact go_iret dX12_lead_20 rfl vc rfl (Nat.le_refl _) (Nat.le_refl _)
  · replace vc := vc.2 q
    refine go_iload_n (x := a3) dX12_lead_9 rfl ?_
    refine go_i2l dX12_lead_10 ?_
    refine go_lconst (v := 0) dX12_lead_11 rfl ?_
    refine go_lconst (v := 1) dX12_lead_12 rfl ?_
    refine gsI3 MX12_isIn dX12_lead_13 lX12_321 kX12_isIn sX12_isIn (Nat.le_of_ble_eq_true rfl) vc ?_
    intro v2 h2 vc
    obtain ⟨hR2, vc⟩ := vc
    replace hR := hR2.trans hR
    refine go_if_ne 21 dX12_lead_16 rfl (fun q => ?_) (fun q => ?_)
    · replace vc := vc.1 q
      refine go_iconst (v := (-1)) dX12_lead_21 rfl ?_
      refine go_istore dX12_lead_22 (Nat.le_of_ble_eq_true rfl) ?_
      show gg p l e s m args below meth c G (d + 1) MX12_lead Q 24 [some (.ref 82), some (.int a1), some (.int a2), some (.int a3), some (.int (-1)), none, none, none] [] h2
      refine go_iconst (v := (-1)) dX12_lead_24 rfl ?_
      refine go_istore dX12_lead_25 (Nat.le_of_ble_eq_true rfl) ?_
      show gg p l e s m args below meth c G (d + 1) MX12_lead Q 27 [some (.ref 82), some (.int a1), some (.int a2), some (.int a3), some (.int (-1)), some (.int (-1)), none, none] [] h2
      refine go_iconst (v := 0) dX12_lead_27 rfl ?_
      refine go_istore dX12_lead_28 (Nat.le_of_ble_eq_true rfl) ?_
      show gg p l e s m args below meth c G (d + 1) MX12_lead Q 30 [some (.ref 82), some (.int a1), some (.int a2), some (.int a3), some (.int (-1)), some (.int (-1)), some (.int 0), none] [] h2
      exact vc
    · replace vc := vc.2 q
      refine go_iconst (v := (-1)) dX12_lead_19 rfl ?_
      exact go_iret dX12_lead_20 rfl vc rfl (Nat.le_refl _) (Nat.le_refl _)
set_option maxRecDepth 20000 in
theorem wX12_lead_30 {p : Program} {l : Launch} {e : Env} {s : State} {m : MethodId} {args : Array Value} {below : List Frame} {meth : Method} {c : Code} {G : gG} {d : Nat} {Q : Option Value → gH → Prop} {h : gH} {lk sp : Nat} {cd : Option Nat} {x1 : Int32} {x2 : Int32} {x3 : Int32} {x4 : Int32} {x5 : Int32} {x6 : Int32} (hR : h.2.2 = gRF lk sp cd) (hlk : lk = 30 ∨ lk = 67) (hsp : sp = 30 ∨ sp = 67)  (vc : gC l G d MX12_boatMany [.ref 82] h (rI fun v1 h1 => h1.2.2 = (h).2.2 ∧ ((v1 ≤ x6 → ((¬ x3 = 0 → Q (some (.int x5)) h1) ∧ (x3 = 0 → Q (some (.int x4)) h1))) ∧ (¬ v1 ≤ x6 → ((((x1 >>> (x6 &&& 31)) &&& 1) = 0 → gg p l e s m args below meth c G (d + 1) MX12_lead Q 30 [some (.ref 82), some (.int x1), some (.int x2), some (.int x3), some (.int x4), some (.int x5), some (.int (x6 + 1)), none] [] h1) ∧ (¬ ((x1 >>> (x6 &&& 31)) &&& 1) = 0 → gC l G d MX12_wouldGo [.ref 82, .int x6, .int x2, .int (-1)] h1 (rI fun v2 h2 => h2.2.2 = (h1).2.2 ∧ ((¬ v2 = 0 → gC l G d MX12_behindIt [.ref 82, .int x1, .int x6, .int x2] h2 (rI fun v3 h3 => h3.2.2 = (h2).2.2 ∧ ((x5 < v3 → gg p l e s m args below meth c G (d + 1) MX12_lead Q 30 [some (.ref 82), some (.int x1), some (.int x2), some (.int x3), some (.int x6), some (.int v3), some (.int (x6 + 1)), none] [] h3) ∧ (¬ x5 < v3 → gg p l e s m args below meth c G (d + 1) MX12_lead Q 30 [some (.ref 82), some (.int x1), some (.int x2), some (.int x3), some (.int x4), some (.int x5), some (.int (x6 + 1)), none] [] h3)))) ∧ (v2 = 0 → gg p l e s m args below meth c G (d + 1) MX12_lead Q 30 [some (.ref 82), some (.int x1), some (.int x2), some (.int x3), some (.int x4), some (.int x5), some (.int (x6 + 1)), none] [] h2))))))))) : gg p l e s m args below meth c G (d + 1) MX12_lead Q 30 [some (.ref 82), some (.int x1), some (.int x2), some (.int x3), some (.int x4), some (.int x5), some (.int x6), none] [] h := by
  refine go_iload (x := x6) dX12_lead_30 rfl ?_
  refine go_aload_n (x := 82) dX12_lead_32 rfl ?_
  refine gvI0 MX12_boatMany dX12_lead_33 lX12_483 kX12_boatMany vX12_boatMany sh82 (by decide) rfl (Nat.le_of_ble_eq_true rfl) vc ?_
  intro v1 h1 vc
  obtain ⟨hR1, vc⟩ := vc
  replace hR := hR1.trans hR
  refine go_icmp_ge 96 dX12_lead_36 rfl (fun q => ?_) (fun q => ?_)
  · replace vc := vc.1 q
    refine go_iload_n (x := x3) dX12_lead_96 rfl ?_
    refine go_if_ne 105 dX12_lead_97 rfl (fun q => ?_) (fun q => ?_)
    · replace vc := vc.1 q
      refine go_iload (x := x5) dX12_lead_105 rfl ?_
      exact go_iret dX12_lead_107 rfl vc rfl (Nat.le_refl _) (Nat.le_refl _)
    · replace vc := vc.2 q
      refine go_iload (x := x4) dX12_lead_100 rfl ?_
      refine go_goto 107 dX12_lead_102 rfl ?_
      exact go_iret dX12_lead_107 rfl vc rfl (Nat.le_refl _) (Nat.le_refl _)
  · replace vc := vc.2 q
    refine go_iload_n (x := x1) dX12_lead_39 rfl ?_
    refine go_iload (x := x6) dX12_lead_40 rfl ?_
    refine go_ishr dX12_lead_42 ?_
    refine go_iconst (v := 1) dX12_lead_43 rfl ?_
    refine go_iand dX12_lead_44 ?_
    refine go_if_eq 90 dX12_lead_45 rfl (fun q => ?_) (fun q => ?_)
    · replace vc := vc.1 q
      refine go_iinc (x := x6) dX12_lead_90 rfl ?_
      show gg p l e s m args below meth c G (d + 1) MX12_lead Q 93 [some (.ref 82), some (.int x1), some (.int x2), some (.int x3), some (.int x4), some (.int x5), some (.int (x6 + 1)), none] [] h1
      refine go_goto 30 dX12_lead_93 rfl ?_
      exact vc
    · replace vc := vc.2 q
      refine go_aload_n (x := 82) dX12_lead_48 rfl ?_
      refine go_iload (x := x6) dX12_lead_49 rfl ?_
      refine go_iload_n (x := x2) dX12_lead_51 rfl ?_
      refine go_iconst (v := (-1)) dX12_lead_52 rfl ?_
      refine gvI3 MX12_wouldGo dX12_lead_53 lX12_545 kX12_wouldGo vX12_wouldGo sh82 (by decide) rfl (Nat.le_of_ble_eq_true rfl) vc ?_
      intro v2 h2 vc
      obtain ⟨hR2, vc⟩ := vc
      replace hR := hR2.trans hR
      refine go_if_ne 62 dX12_lead_56 rfl (fun q => ?_) (fun q => ?_)
      · replace vc := vc.1 q
        refine go_aload_n (x := 82) dX12_lead_62 rfl ?_
        refine go_iload_n (x := x1) dX12_lead_63 rfl ?_
        refine go_iload (x := x6) dX12_lead_64 rfl ?_
        refine go_iload_n (x := x2) dX12_lead_66 rfl ?_
        refine gvI3 MX12_behindIt dX12_lead_67 lX12_633 kX12_behindIt vX12_behindIt sh82 (by decide) rfl (Nat.le_of_ble_eq_true rfl) vc ?_
        intro v3 h3 vc
        obtain ⟨hR3, vc⟩ := vc
        replace hR := hR3.trans hR
        refine go_istore dX12_lead_70 (Nat.le_of_ble_eq_true rfl) ?_
        show gg p l e s m args below meth c G (d + 1) MX12_lead Q 72 [some (.ref 82), some (.int x1), some (.int x2), some (.int x3), some (.int x4), some (.int x5), some (.int x6), some (.int v3)] [] h3
        refine go_iload (x := v3) dX12_lead_72 rfl ?_
        refine go_iload (x := x5) dX12_lead_74 rfl ?_
        refine go_icmp_gt 82 dX12_lead_76 rfl (fun q => ?_) (fun q => ?_)
        · replace vc := vc.1 q
          refine go_iload (x := v3) dX12_lead_82 rfl ?_
          refine go_istore dX12_lead_84 (Nat.le_of_ble_eq_true rfl) ?_
          show gg p l e s m args below meth c G (d + 1) MX12_lead Q 86 [some (.ref 82), some (.int x1), some (.int x2), some (.int x3), some (.int x4), some (.int v3), some (.int x6), some (.int v3)] [] h3
          refine go_iload (x := x6) dX12_lead_86 rfl ?_
          refine go_istore dX12_lead_88 (Nat.le_of_ble_eq_true rfl) ?_
          show gg p l e s m args below meth c G (d + 1) MX12_lead Q 90 [some (.ref 82), some (.int x1), some (.int x2), some (.int x3), some (.int x6), some (.int v3), some (.int x6), some (.int v3)] [] h3
          refine go_iinc (x := x6) dX12_lead_90 rfl ?_
          show gg p l e s m args below meth c G (d + 1) MX12_lead Q 93 [some (.ref 82), some (.int x1), some (.int x2), some (.int x3), some (.int x6), some (.int v3), some (.int (x6 + 1)), some (.int v3)] [] h3
          refine go_goto 30 dX12_lead_93 rfl ?_
          refine go_weak (ls' := [some (.ref 82), some (.int x1), some (.int x2), some (.int x3), some (.int x6), some (.int v3), some (.int (x6 + 1)), none]) ?_ vc
          exact (⟨rfl, ⟨rfl, ⟨rfl, ⟨rfl, ⟨rfl, ⟨rfl, ⟨rfl, trivial⟩⟩⟩⟩⟩⟩⟩)
        · replace vc := vc.2 q
          refine go_goto 90 dX12_lead_79 rfl ?_
          refine go_iinc (x := x6) dX12_lead_90 rfl ?_
          show gg p l e s m args below meth c G (d + 1) MX12_lead Q 93 [some (.ref 82), some (.int x1), some (.int x2), some (.int x3), some (.int x4), some (.int x5), some (.int (x6 + 1)), some (.int v3)] [] h3
          refine go_goto 30 dX12_lead_93 rfl ?_
          refine go_weak (ls' := [some (.ref 82), some (.int x1), some (.int x2), some (.int x3), some (.int x4), some (.int x5), some (.int (x6 + 1)), none]) ?_ vc
          exact (⟨rfl, ⟨rfl, ⟨rfl, ⟨rfl, ⟨rfl, ⟨rfl, ⟨rfl, trivial⟩⟩⟩⟩⟩⟩⟩)
      · replace vc := vc.2 q
        refine go_goto 90 dX12_lead_59 rfl ?_
        refine go_iinc (x := x6) dX12_lead_90 rfl ?_
        show gg p l e s m args below meth c G (d + 1) MX12_lead Q 93 [some (.ref 82), some (.int x1), some (.int x2), some (.int x3), some (.int x4), some (.int x5), some (.int (x6 + 1)), none] [] h2
        refine go_goto 30 dX12_lead_93 rfl ?_
        exact vc
set_option maxRecDepth 20000 in
theorem wX12_liesBest_0 {p : Program} {l : Launch} {e : Env} {s : State} {m : MethodId} {args : Array Value} {below : List Frame} {meth : Method} {c : Code} {G : gG} {d : Nat} {Q : Option Value → gH → Prop} {h : gH} {lk sp : Nat} {cd : Option Nat} {a1 : Int32} (hR : h.2.2 = gRF lk sp cd) (hlk : lk = 30 ∨ lk = 67) (hsp : sp = 30 ∨ sp = 67)  (vc : gg p l e s m args below meth c G (d + 1) MX12_liesBest Q 4 [some (.ref 82), some (.int a1), some (.int (-1)), some (.int 0)] [] h) : gg p l e s m args below meth c G (d + 1) MX12_liesBest Q 0 [some (.ref 82), some (.int a1), none, none] [] h := by
  refine go_iconst (v := (-1)) dX12_liesBest_0 rfl ?_
  refine go_istore_n dX12_liesBest_1 (Nat.le_of_ble_eq_true rfl) ?_
  show gg p l e s m args below meth c G (d + 1) MX12_liesBest Q 2 [some (.ref 82), some (.int a1), some (.int (-1)), none] [] h
  refine go_iconst (v := 0) dX12_liesBest_2 rfl ?_
  refine go_istore_n dX12_liesBest_3 (Nat.le_of_ble_eq_true rfl) ?_
  show gg p l e s m args below meth c G (d + 1) MX12_liesBest Q 4 [some (.ref 82), some (.int a1), some (.int (-1)), some (.int 0)] [] h
  exact vc
set_option maxRecDepth 20000 in
theorem wX12_liesBest_4 {p : Program} {l : Launch} {e : Env} {s : State} {m : MethodId} {args : Array Value} {below : List Frame} {meth : Method} {c : Code} {G : gG} {d : Nat} {Q : Option Value → gH → Prop} {h : gH} {lk sp : Nat} {cd : Option Nat} {x1 : Int32} {x2 : Int32} {x3 : Int32} (hR : h.2.2 = gRF lk sp cd) (hlk : lk = 30 ∨ lk = 67) (hsp : sp = 30 ∨ sp = 67)  (vc : gC l G d MX12_handMany [.ref 82] h (rI fun v1 h1 => h1.2.2 = (h).2.2 ∧ ((v1 ≤ x3 → Q (some (.int x2)) h1) ∧ (¬ v1 ≤ x3 → (vp_in x1 6 ∧ ((¬ (((h1.1 140 x1.toNatClampNeg) >>> (x3 &&& 31)) &&& 1) = 0 → gg p l e s m args below meth c G (d + 1) MX12_liesBest Q 4 [some (.ref 82), some (.int x1), some (.int x2), some (.int (x3 + 1))] [] h1) ∧ ((((h1.1 140 x1.toNatClampNeg) >>> (x3 &&& 31)) &&& 1) = 0 → ((x2 = (-1) → gg p l e s m args below meth c G (d + 1) MX12_liesBest Q 4 [some (.ref 82), some (.int x1), some (.int x3), some (.int (x3 + 1))] [] h1) ∧ (¬ x2 = (-1) → gC l G d MX12_liked [.ref 82, .int x1, .int x3] h1 (rI fun v2 h2 => h2.2.2 = (h1).2.2 ∧ gC l G d MX12_liked [.ref 82, .int x1, .int x2] h2 (rI fun v3 h3 => h3.2.2 = (h2).2.2 ∧ ((v2 ≤ v3 → gg p l e s m args below meth c G (d + 1) MX12_liesBest Q 4 [some (.ref 82), some (.int x1), some (.int x2), some (.int (x3 + 1))] [] h3) ∧ (¬ v2 ≤ v3 → gg p l e s m args below meth c G (d + 1) MX12_liesBest Q 4 [some (.ref 82), some (.int x1), some (.int x3), some (.int (x3 + 1))] [] h3))))))))))))) : gg p l e s m args below meth c G (d + 1) MX12_liesBest Q 4 [some (.ref 82), some (.int x1), some (.int x2), some (.int x3)] [] h := by
  refine go_iload_n (x := x3) dX12_liesBest_4 rfl ?_
  refine go_aload_n (x := 82) dX12_liesBest_5 rfl ?_
  refine gvI0 MX12_handMany dX12_liesBest_6 lX12_572 kX12_handMany vX12_handMany sh82 (by decide) rfl (Nat.le_of_ble_eq_true rfl) vc ?_
  intro v1 h1 vc
  obtain ⟨hR1, vc⟩ := vc
  replace hR := hR1.trans hR
  refine go_icmp_ge 53 dX12_liesBest_9 rfl (fun q => ?_) (fun q => ?_)
  · replace vc := vc.1 q
    refine go_iload_n (x := x2) dX12_liesBest_53 rfl ?_
    exact go_iret dX12_liesBest_54 rfl vc rfl (Nat.le_refl _) (Nat.le_refl _)
  · replace vc := vc.2 q
    refine go_aload_n (x := 82) dX12_liesBest_12 rfl ?_
    refine go_getR (x := 140) dX12_liesBest_13 f12_187 sh82 (fun _ _ => rfl) (rf82_75 hR) ?_
    refine go_iload_n (x := x1) dX12_liesBest_16 rfl ?_
    refine go_iald' (v := (h1.1 140 x1.toNatClampNeg)) dX12_liesBest_17 sh140 vc.1 rfl ?_
    have vc := vc.2
    refine go_iload_n (x := x3) dX12_liesBest_18 rfl ?_
    refine go_ishr dX12_liesBest_19 ?_
    refine go_iconst (v := 1) dX12_liesBest_20 rfl ?_
    refine go_iand dX12_liesBest_21 ?_
    refine go_if_ne 47 dX12_liesBest_22 rfl (fun q => ?_) (fun q => ?_)
    · replace vc := vc.1 q
      refine go_iinc (x := x3) dX12_liesBest_47 rfl ?_
      show gg p l e s m args below meth c G (d + 1) MX12_liesBest Q 50 [some (.ref 82), some (.int x1), some (.int x2), some (.int (x3 + 1))] [] h1
      refine go_goto 4 dX12_liesBest_50 rfl ?_
      exact vc
    · replace vc := vc.2 q
      refine go_iload_n (x := x2) dX12_liesBest_25 rfl ?_
      refine go_iconst (v := (-1)) dX12_liesBest_26 rfl ?_
      refine go_icmp_eq 45 dX12_liesBest_27 rfl (fun q => ?_) (fun q => ?_)
      · replace vc := vc.1 q
        refine go_iload_n (x := x3) dX12_liesBest_45 rfl ?_
        refine go_istore_n dX12_liesBest_46 (Nat.le_of_ble_eq_true rfl) ?_
        show gg p l e s m args below meth c G (d + 1) MX12_liesBest Q 47 [some (.ref 82), some (.int x1), some (.int x3), some (.int x3)] [] h1
        refine go_iinc (x := x3) dX12_liesBest_47 rfl ?_
        show gg p l e s m args below meth c G (d + 1) MX12_liesBest Q 50 [some (.ref 82), some (.int x1), some (.int x3), some (.int (x3 + 1))] [] h1
        refine go_goto 4 dX12_liesBest_50 rfl ?_
        exact vc
      · replace vc := vc.2 q
        refine go_aload_n (x := 82) dX12_liesBest_30 rfl ?_
        refine go_iload_n (x := x1) dX12_liesBest_31 rfl ?_
        refine go_iload_n (x := x3) dX12_liesBest_32 rfl ?_
        refine gvI2 MX12_liked dX12_liesBest_33 lX12_581 kX12_liked vX12_liked sh82 (by decide) rfl (Nat.le_of_ble_eq_true rfl) vc ?_
        intro v2 h2 vc
        obtain ⟨hR2, vc⟩ := vc
        replace hR := hR2.trans hR
        refine go_aload_n (x := 82) dX12_liesBest_36 rfl ?_
        refine go_iload_n (x := x1) dX12_liesBest_37 rfl ?_
        refine go_iload_n (x := x2) dX12_liesBest_38 rfl ?_
        refine gvI2 MX12_liked dX12_liesBest_39 lX12_581 kX12_liked vX12_liked sh82 (by decide) rfl (Nat.le_of_ble_eq_true rfl) vc ?_
        intro v3 h3 vc
        obtain ⟨hR3, vc⟩ := vc
        replace hR := hR3.trans hR
        refine go_icmp_le 47 dX12_liesBest_42 rfl (fun q => ?_) (fun q => ?_)
        · replace vc := vc.1 q
          refine go_iinc (x := x3) dX12_liesBest_47 rfl ?_
          show gg p l e s m args below meth c G (d + 1) MX12_liesBest Q 50 [some (.ref 82), some (.int x1), some (.int x2), some (.int (x3 + 1))] [] h3
          refine go_goto 4 dX12_liesBest_50 rfl ?_
          exact vc
        · replace vc := vc.2 q
          refine go_iload_n (x := x3) dX12_liesBest_45 rfl ?_
          refine go_istore_n dX12_liesBest_46 (Nat.le_of_ble_eq_true rfl) ?_
          show gg p l e s m args below meth c G (d + 1) MX12_liesBest Q 47 [some (.ref 82), some (.int x1), some (.int x3), some (.int x3)] [] h3
          refine go_iinc (x := x3) dX12_liesBest_47 rfl ?_
          show gg p l e s m args below meth c G (d + 1) MX12_liesBest Q 50 [some (.ref 82), some (.int x1), some (.int x3), some (.int (x3 + 1))] [] h3
          refine go_goto 4 dX12_liesBest_50 rfl ?_
          exact vc
set_option maxRecDepth 20000 in
theorem wX12_asksOne_0 {p : Program} {l : Launch} {e : Env} {s : State} {m : MethodId} {args : Array Value} {below : List Frame} {meth : Method} {c : Code} {G : gG} {d : Nat} {Q : Option Value → gH → Prop} {h : gH} {lk sp : Nat} {cd : Option Nat} {a1 : Int32} (hR : h.2.2 = gRF lk sp cd) (hlk : lk = 30 ∨ lk = 67) (hsp : sp = 30 ∨ sp = 67)  (vc : gC l G d MX12_liesBest [.ref 82, .int a1] h (rI fun v1 h1 => h1.2.2 = (h).2.2 ∧ ((¬ v1 = (-1) → (vp_in v1 6 ∧ (((h1.1 139 v1.toNatClampNeg) = (-1) → (vp_in v1 6 ∧ (((h1.1 139 v1.toNatClampNeg) = (-1) → Q (some (.int 1)) (sI h1 139 v1.toNatClampNeg a1)) ∧ (¬ (h1.1 139 v1.toNatClampNeg) = (-1) → (vp_in ((h1.1 139 v1.toNatClampNeg)) 6 ∧ (vp_in ((h1.1 139 v1.toNatClampNeg)) 6 ∧ Q (some (.int 1)) (sI (sI h1 139 v1.toNatClampNeg a1) 140 ((h1.1 139 v1.toNatClampNeg) : Int32).toNatClampNeg ((h1.1 140 ((h1.1 139 v1.toNatClampNeg) : Int32).toNatClampNeg) ||| (1 <<< (v1 &&& 31)))))))))) ∧ (¬ (h1.1 139 v1.toNatClampNeg) = (-1) → gC l G d MX12_trustOf [.ref 82, .int a1] h1 (rI fun v2 h2 => h2.2.2 = (h1).2.2 ∧ gC l G d MX12_trustOf [.ref 82, .int (h1.1 139 v1.toNatClampNeg)] h2 (rI fun v3 h3 => h3.2.2 = (h2).2.2 ∧ ((v3 < v2 → (vp_in v1 6 ∧ (((h1.1 139 v1.toNatClampNeg) = (-1) → Q (some (.int 1)) (sI h3 139 v1.toNatClampNeg a1)) ∧ (¬ (h1.1 139 v1.toNatClampNeg) = (-1) → (vp_in ((h1.1 139 v1.toNatClampNeg)) 6 ∧ (vp_in ((h1.1 139 v1.toNatClampNeg)) 6 ∧ Q (some (.int 1)) (sI (sI h3 139 v1.toNatClampNeg a1) 140 ((h1.1 139 v1.toNatClampNeg) : Int32).toNatClampNeg ((h3.1 140 ((h1.1 139 v1.toNatClampNeg) : Int32).toNatClampNeg) ||| (1 <<< (v1 &&& 31)))))))))) ∧ (¬ v3 < v2 → gC l G d MX12_trustOf [.ref 82, .int a1] h3 (rI fun v4 h4 => h4.2.2 = (h3).2.2 ∧ gC l G d MX12_trustOf [.ref 82, .int (h1.1 139 v1.toNatClampNeg)] h4 (rI fun v5 h5 => h5.2.2 = (h4).2.2 ∧ ((¬ v4 = v5 → ((a1 = (-1) → Q (some (.int 1)) h5) ∧ (¬ a1 = (-1) → (vp_in a1 6 ∧ (vp_in a1 6 ∧ Q (some (.int 1)) (sI h5 140 a1.toNatClampNeg ((h5.1 140 a1.toNatClampNeg) ||| (1 <<< (v1 &&& 31))))))))) ∧ (v4 = v5 → (((h1.1 139 v1.toNatClampNeg) ≤ a1 → ((a1 = (-1) → Q (some (.int 1)) h5) ∧ (¬ a1 = (-1) → (vp_in a1 6 ∧ (vp_in a1 6 ∧ Q (some (.int 1)) (sI h5 140 a1.toNatClampNeg ((h5.1 140 a1.toNatClampNeg) ||| (1 <<< (v1 &&& 31))))))))) ∧ (¬ (h1.1 139 v1.toNatClampNeg) ≤ a1 → (vp_in v1 6 ∧ (((h1.1 139 v1.toNatClampNeg) = (-1) → Q (some (.int 1)) (sI h5 139 v1.toNatClampNeg a1)) ∧ (¬ (h1.1 139 v1.toNatClampNeg) = (-1) → (vp_in ((h1.1 139 v1.toNatClampNeg)) 6 ∧ (vp_in ((h1.1 139 v1.toNatClampNeg)) 6 ∧ Q (some (.int 1)) (sI (sI h5 139 v1.toNatClampNeg a1) 140 ((h1.1 139 v1.toNatClampNeg) : Int32).toNatClampNeg ((h5.1 140 ((h1.1 139 v1.toNatClampNeg) : Int32).toNatClampNeg) ||| (1 <<< (v1 &&& 31))))))))))))))))))))))) ∧ (v1 = (-1) → Q (some (.int 0)) h1)))) : gg p l e s m args below meth c G (d + 1) MX12_asksOne Q 0 [some (.ref 82), some (.int a1), none, none, none, none] [] h := by
  refine go_aload_n (x := 82) dX12_asksOne_0 rfl ?_
  refine go_iload_n (x := a1) dX12_asksOne_1 rfl ?_
  refine gvI1 MX12_liesBest dX12_asksOne_2 lX12_636 kX12_liesBest vX12_liesBest sh82 (by decide) rfl (Nat.le_of_ble_eq_true rfl) vc ?_
  intro v1 h1 vc
  obtain ⟨hR1, vc⟩ := vc
  replace hR := hR1.trans hR
  refine go_istore_n dX12_asksOne_5 (Nat.le_of_ble_eq_true rfl) ?_
  show gg p l e s m args below meth c G (d + 1) MX12_asksOne Q 6 [some (.ref 82), some (.int a1), some (.int v1), none, none, none] [] h1
  refine go_iload_n (x := v1) dX12_asksOne_6 rfl ?_
  refine go_iconst (v := (-1)) dX12_asksOne_7 rfl ?_
  refine go_icmp_ne 13 dX12_asksOne_8 rfl (fun q => ?_) (fun q => ?_)
  · replace vc := vc.1 q
    refine go_aload_n (x := 82) dX12_asksOne_13 rfl ?_
    refine go_getR (x := 139) dX12_asksOne_14 f12_184 sh82 (fun _ _ => rfl) (rf82_74 hR) ?_
    refine go_iload_n (x := v1) dX12_asksOne_17 rfl ?_
    refine go_iald' (v := (h1.1 139 v1.toNatClampNeg)) dX12_asksOne_18 sh139 vc.1 rfl ?_
    have vc := vc.2
    refine go_istore_n dX12_asksOne_19 (Nat.le_of_ble_eq_true rfl) ?_
    show gg p l e s m args below meth c G (d + 1) MX12_asksOne Q 20 [some (.ref 82), some (.int a1), some (.int v1), some (.int (h1.1 139 v1.toNatClampNeg)), none, none] [] h1
    refine go_iload_n (x := (h1.1 139 v1.toNatClampNeg)) dX12_asksOne_20 rfl ?_
    refine go_iconst (v := (-1)) dX12_asksOne_21 rfl ?_
    refine go_icmp_eq 56 dX12_asksOne_22 rfl (fun q => ?_) (fun q => ?_)
    · replace vc := vc.1 q
      refine go_iconst (v := 1) dX12_asksOne_56 rfl ?_
      refine go_goto 61 dX12_asksOne_57 rfl ?_
      refine go_istore dX12_asksOne_61 (Nat.le_of_ble_eq_true rfl) ?_
      show gg p l e s m args below meth c G (d + 1) MX12_asksOne Q 63 [some (.ref 82), some (.int a1), some (.int v1), some (.int (h1.1 139 v1.toNatClampNeg)), some (.int 1), none] [] h1
      refine go_iload (x := 1) dX12_asksOne_63 rfl ?_
      refine go_if_eq 75 dX12_asksOne_65 rfl (fun q => absurd q (by decide)) (fun q => ?_)
      refine go_aload_n (x := 82) dX12_asksOne_68 rfl ?_
      refine go_getR (x := 139) dX12_asksOne_69 f12_184 sh82 (fun _ _ => rfl) (rf82_74 hR) ?_
      refine go_iload_n (x := v1) dX12_asksOne_72 rfl ?_
      refine go_iload_n (x := a1) dX12_asksOne_73 rfl ?_
      refine go_iast dX12_asksOne_74 sh139 vc.1 ?_
      have vc := vc.2
      show gg p l e s m args below meth c G (d + 1) MX12_asksOne Q 75 [some (.ref 82), some (.int a1), some (.int v1), some (.int (h1.1 139 v1.toNatClampNeg)), some (.int 1), none] [] (sI h1 139 v1.toNatClampNeg a1)
      refine go_iload (x := 1) dX12_asksOne_75 rfl ?_
      refine go_if_eq 84 dX12_asksOne_77 rfl (fun q => absurd q (by decide)) (fun q => ?_)
      refine go_iload_n (x := (h1.1 139 v1.toNatClampNeg)) dX12_asksOne_80 rfl ?_
      refine go_goto 85 dX12_asksOne_81 rfl ?_
      refine go_istore dX12_asksOne_85 (Nat.le_of_ble_eq_true rfl) ?_
      show gg p l e s m args below meth c G (d + 1) MX12_asksOne Q 87 [some (.ref 82), some (.int a1), some (.int v1), some (.int (h1.1 139 v1.toNatClampNeg)), some (.int 1), some (.int (h1.1 139 v1.toNatClampNeg))] [] (sI h1 139 v1.toNatClampNeg a1)
      refine go_iload (x := (h1.1 139 v1.toNatClampNeg)) dX12_asksOne_87 rfl ?_
      refine go_iconst (v := (-1)) dX12_asksOne_89 rfl ?_
      refine go_icmp_eq 106 dX12_asksOne_90 rfl (fun q => ?_) (fun q => ?_)
      · replace vc := vc.1 q
        refine go_iconst (v := 1) dX12_asksOne_106 rfl ?_
        exact go_zret dX12_asksOne_107 rfl (by decide) vc rfl (Nat.le_refl _) (Nat.le_refl _)
      · replace vc := vc.2 q
        refine go_aload_n (x := 82) dX12_asksOne_93 rfl ?_
        refine go_getR (x := 140) dX12_asksOne_94 f12_187 sh82 (fun _ _ => rfl) (rf82_75 hR) ?_
        refine go_iload (x := (h1.1 139 v1.toNatClampNeg)) dX12_asksOne_97 rfl ?_
        refine go_dup2 dX12_asksOne_99 rfl rfl ?_
        refine go_iald' (v := (h1.1 140 ((h1.1 139 v1.toNatClampNeg) : Int32).toNatClampNeg)) dX12_asksOne_100 sh140 vc.1 rfl ?_
        have vc := vc.2
        refine go_iconst (v := 1) dX12_asksOne_101 rfl ?_
        refine go_iload_n (x := v1) dX12_asksOne_102 rfl ?_
        refine go_ishl dX12_asksOne_103 ?_
        refine go_ior dX12_asksOne_104 ?_
        refine go_iast dX12_asksOne_105 sh140 vc.1 ?_
        have vc := vc.2
        show gg p l e s m args below meth c G (d + 1) MX12_asksOne Q 106 [some (.ref 82), some (.int a1), some (.int v1), some (.int (h1.1 139 v1.toNatClampNeg)), some (.int 1), some (.int (h1.1 139 v1.toNatClampNeg))] [] (sI (sI h1 139 v1.toNatClampNeg a1) 140 ((h1.1 139 v1.toNatClampNeg) : Int32).toNatClampNeg ((h1.1 140 ((h1.1 139 v1.toNatClampNeg) : Int32).toNatClampNeg) ||| (1 <<< (v1 &&& 31))))
        refine go_iconst (v := 1) dX12_asksOne_106 rfl ?_
        exact go_zret dX12_asksOne_107 rfl (by decide) vc rfl (Nat.le_refl _) (Nat.le_refl _)
    · replace vc := vc.2 q
      refine go_aload_n (x := 82) dX12_asksOne_25 rfl ?_
      refine go_iload_n (x := a1) dX12_asksOne_26 rfl ?_
      refine gvI1 MX12_trustOf dX12_asksOne_27 lX12_522 kX12_trustOf vX12_trustOf sh82 (by decide) rfl (Nat.le_of_ble_eq_true rfl) vc ?_
      intro v2 h2 vc
      obtain ⟨hR2, vc⟩ := vc
      replace hR := hR2.trans hR
      refine go_aload_n (x := 82) dX12_asksOne_30 rfl ?_
      refine go_iload_n (x := (h1.1 139 v1.toNatClampNeg)) dX12_asksOne_31 rfl ?_
      refine gvI1 MX12_trustOf dX12_asksOne_32 lX12_522 kX12_trustOf vX12_trustOf sh82 (by decide) rfl (Nat.le_of_ble_eq_true rfl) vc ?_
      intro v3 h3 vc
      obtain ⟨hR3, vc⟩ := vc
      replace hR := hR3.trans hR
      refine go_icmp_gt 56 dX12_asksOne_35 rfl (fun q => ?_) (fun q => ?_)
      · replace vc := vc.1 q
        refine go_iconst (v := 1) dX12_asksOne_56 rfl ?_
        refine go_goto 61 dX12_asksOne_57 rfl ?_
        refine go_istore dX12_asksOne_61 (Nat.le_of_ble_eq_true rfl) ?_
        show gg p l e s m args below meth c G (d + 1) MX12_asksOne Q 63 [some (.ref 82), some (.int a1), some (.int v1), some (.int (h1.1 139 v1.toNatClampNeg)), some (.int 1), none] [] h3
        refine go_iload (x := 1) dX12_asksOne_63 rfl ?_
        refine go_if_eq 75 dX12_asksOne_65 rfl (fun q => absurd q (by decide)) (fun q => ?_)
        refine go_aload_n (x := 82) dX12_asksOne_68 rfl ?_
        refine go_getR (x := 139) dX12_asksOne_69 f12_184 sh82 (fun _ _ => rfl) (rf82_74 hR) ?_
        refine go_iload_n (x := v1) dX12_asksOne_72 rfl ?_
        refine go_iload_n (x := a1) dX12_asksOne_73 rfl ?_
        refine go_iast dX12_asksOne_74 sh139 vc.1 ?_
        have vc := vc.2
        show gg p l e s m args below meth c G (d + 1) MX12_asksOne Q 75 [some (.ref 82), some (.int a1), some (.int v1), some (.int (h1.1 139 v1.toNatClampNeg)), some (.int 1), none] [] (sI h3 139 v1.toNatClampNeg a1)
        refine go_iload (x := 1) dX12_asksOne_75 rfl ?_
        refine go_if_eq 84 dX12_asksOne_77 rfl (fun q => absurd q (by decide)) (fun q => ?_)
        refine go_iload_n (x := (h1.1 139 v1.toNatClampNeg)) dX12_asksOne_80 rfl ?_
        refine go_goto 85 dX12_asksOne_81 rfl ?_
        refine go_istore dX12_asksOne_85 (Nat.le_of_ble_eq_true rfl) ?_
        show gg p l e s m args below meth c G (d + 1) MX12_asksOne Q 87 [some (.ref 82), some (.int a1), some (.int v1), some (.int (h1.1 139 v1.toNatClampNeg)), some (.int 1), some (.int (h1.1 139 v1.toNatClampNeg))] [] (sI h3 139 v1.toNatClampNeg a1)
        refine go_iload (x := (h1.1 139 v1.toNatClampNeg)) dX12_asksOne_87 rfl ?_
        refine go_iconst (v := (-1)) dX12_asksOne_89 rfl ?_
        refine go_icmp_eq 106 dX12_asksOne_90 rfl (fun q => ?_) (fun q => ?_)
        · replace vc := vc.1 q
          refine go_iconst (v := 1) dX12_asksOne_106 rfl ?_
          exact go_zret dX12_asksOne_107 rfl (by decide) vc rfl (Nat.le_refl _) (Nat.le_refl _)
        · replace vc := vc.2 q
          refine go_aload_n (x := 82) dX12_asksOne_93 rfl ?_
          refine go_getR (x := 140) dX12_asksOne_94 f12_187 sh82 (fun _ _ => rfl) (rf82_75 hR) ?_
          refine go_iload (x := (h1.1 139 v1.toNatClampNeg)) dX12_asksOne_97 rfl ?_
          refine go_dup2 dX12_asksOne_99 rfl rfl ?_
          refine go_iald' (v := (h3.1 140 ((h1.1 139 v1.toNatClampNeg) : Int32).toNatClampNeg)) dX12_asksOne_100 sh140 vc.1 rfl ?_
          have vc := vc.2
          refine go_iconst (v := 1) dX12_asksOne_101 rfl ?_
          refine go_iload_n (x := v1) dX12_asksOne_102 rfl ?_
          refine go_ishl dX12_asksOne_103 ?_
          refine go_ior dX12_asksOne_104 ?_
          refine go_iast dX12_asksOne_105 sh140 vc.1 ?_
          have vc := vc.2
          show gg p l e s m args below meth c G (d + 1) MX12_asksOne Q 106 [some (.ref 82), some (.int a1), some (.int v1), some (.int (h1.1 139 v1.toNatClampNeg)), some (.int 1), some (.int (h1.1 139 v1.toNatClampNeg))] [] (sI (sI h3 139 v1.toNatClampNeg a1) 140 ((h1.1 139 v1.toNatClampNeg) : Int32).toNatClampNeg ((h3.1 140 ((h1.1 139 v1.toNatClampNeg) : Int32).toNatClampNeg) ||| (1 <<< (v1 &&& 31))))
          refine go_iconst (v := 1) dX12_asksOne_106 rfl ?_
          exact go_zret dX12_asksOne_107 rfl (by decide) vc rfl (Nat.le_refl _) (Nat.le_refl _)
      · replace vc := vc.2 q
        refine go_aload_n (x := 82) dX12_asksOne_38 rfl ?_
        refine go_iload_n (x := a1) dX12_asksOne_39 rfl ?_
        refine gvI1 MX12_trustOf dX12_asksOne_40 lX12_522 kX12_trustOf vX12_trustOf sh82 (by decide) rfl (Nat.le_of_ble_eq_true rfl) vc ?_
        intro v4 h4 vc
        obtain ⟨hR4, vc⟩ := vc
        replace hR := hR4.trans hR
        refine go_aload_n (x := 82) dX12_asksOne_43 rfl ?_
        refine go_iload_n (x := (h1.1 139 v1.toNatClampNeg)) dX12_asksOne_44 rfl ?_
        refine gvI1 MX12_trustOf dX12_asksOne_45 lX12_522 kX12_trustOf vX12_trustOf sh82 (by decide) rfl (Nat.le_of_ble_eq_true rfl) vc ?_
        intro v5 h5 vc
        obtain ⟨hR5, vc⟩ := vc
        replace hR := hR5.trans hR
        refine go_icmp_ne 60 dX12_asksOne_48 rfl (fun q => ?_) (fun q => ?_)
        · replace vc := vc.1 q
          refine go_iconst (v := 0) dX12_asksOne_60 rfl ?_
          refine go_istore dX12_asksOne_61 (Nat.le_of_ble_eq_true rfl) ?_
          show gg p l e s m args below meth c G (d + 1) MX12_asksOne Q 63 [some (.ref 82), some (.int a1), some (.int v1), some (.int (h1.1 139 v1.toNatClampNeg)), some (.int 0), none] [] h5
          refine go_iload (x := 0) dX12_asksOne_63 rfl ?_
          refine go_if_eq 75 dX12_asksOne_65 rfl (fun q => ?_) (fun q => absurd q (by decide))
          refine go_iload (x := 0) dX12_asksOne_75 rfl ?_
          refine go_if_eq 84 dX12_asksOne_77 rfl (fun q => ?_) (fun q => absurd q (by decide))
          refine go_iload_n (x := a1) dX12_asksOne_84 rfl ?_
          refine go_istore dX12_asksOne_85 (Nat.le_of_ble_eq_true rfl) ?_
          show gg p l e s m args below meth c G (d + 1) MX12_asksOne Q 87 [some (.ref 82), some (.int a1), some (.int v1), some (.int (h1.1 139 v1.toNatClampNeg)), some (.int 0), some (.int a1)] [] h5
          refine go_iload (x := a1) dX12_asksOne_87 rfl ?_
          refine go_iconst (v := (-1)) dX12_asksOne_89 rfl ?_
          refine go_icmp_eq 106 dX12_asksOne_90 rfl (fun q => ?_) (fun q => ?_)
          · replace vc := vc.1 q
            refine go_iconst (v := 1) dX12_asksOne_106 rfl ?_
            exact go_zret dX12_asksOne_107 rfl (by decide) vc rfl (Nat.le_refl _) (Nat.le_refl _)
          · replace vc := vc.2 q
            refine go_aload_n (x := 82) dX12_asksOne_93 rfl ?_
            refine go_getR (x := 140) dX12_asksOne_94 f12_187 sh82 (fun _ _ => rfl) (rf82_75 hR) ?_
            refine go_iload (x := a1) dX12_asksOne_97 rfl ?_
            refine go_dup2 dX12_asksOne_99 rfl rfl ?_
            refine go_iald' (v := (h5.1 140 a1.toNatClampNeg)) dX12_asksOne_100 sh140 vc.1 rfl ?_
            have vc := vc.2
            refine go_iconst (v := 1) dX12_asksOne_101 rfl ?_
            refine go_iload_n (x := v1) dX12_asksOne_102 rfl ?_
            refine go_ishl dX12_asksOne_103 ?_
            refine go_ior dX12_asksOne_104 ?_
            refine go_iast dX12_asksOne_105 sh140 vc.1 ?_
            have vc := vc.2
            show gg p l e s m args below meth c G (d + 1) MX12_asksOne Q 106 [some (.ref 82), some (.int a1), some (.int v1), some (.int (h1.1 139 v1.toNatClampNeg)), some (.int 0), some (.int a1)] [] (sI h5 140 a1.toNatClampNeg ((h5.1 140 a1.toNatClampNeg) ||| (1 <<< (v1 &&& 31))))
            refine go_iconst (v := 1) dX12_asksOne_106 rfl ?_
            exact go_zret dX12_asksOne_107 rfl (by decide) vc rfl (Nat.le_refl _) (Nat.le_refl _)
        · replace vc := vc.2 q
          refine go_iload_n (x := a1) dX12_asksOne_51 rfl ?_
          refine go_iload_n (x := (h1.1 139 v1.toNatClampNeg)) dX12_asksOne_52 rfl ?_
          refine go_icmp_ge 60 dX12_asksOne_53 rfl (fun q => ?_) (fun q => ?_)
          · replace vc := vc.1 q
            refine go_iconst (v := 0) dX12_asksOne_60 rfl ?_
            refine go_istore dX12_asksOne_61 (Nat.le_of_ble_eq_true rfl) ?_
            show gg p l e s m args below meth c G (d + 1) MX12_asksOne Q 63 [some (.ref 82), some (.int a1), some (.int v1), some (.int (h1.1 139 v1.toNatClampNeg)), some (.int 0), none] [] h5
            refine go_iload (x := 0) dX12_asksOne_63 rfl ?_
            refine go_if_eq 75 dX12_asksOne_65 rfl (fun q => ?_) (fun q => absurd q (by decide))
            refine go_iload (x := 0) dX12_asksOne_75 rfl ?_
            refine go_if_eq 84 dX12_asksOne_77 rfl (fun q => ?_) (fun q => absurd q (by decide))
            refine go_iload_n (x := a1) dX12_asksOne_84 rfl ?_
            refine go_istore dX12_asksOne_85 (Nat.le_of_ble_eq_true rfl) ?_
            show gg p l e s m args below meth c G (d + 1) MX12_asksOne Q 87 [some (.ref 82), some (.int a1), some (.int v1), some (.int (h1.1 139 v1.toNatClampNeg)), some (.int 0), some (.int a1)] [] h5
            refine go_iload (x := a1) dX12_asksOne_87 rfl ?_
            refine go_iconst (v := (-1)) dX12_asksOne_89 rfl ?_
            refine go_icmp_eq 106 dX12_asksOne_90 rfl (fun q => ?_) (fun q => ?_)
            · replace vc := vc.1 q
              refine go_iconst (v := 1) dX12_asksOne_106 rfl ?_
              exact go_zret dX12_asksOne_107 rfl (by decide) vc rfl (Nat.le_refl _) (Nat.le_refl _)
            · replace vc := vc.2 q
              refine go_aload_n (x := 82) dX12_asksOne_93 rfl ?_
              refine go_getR (x := 140) dX12_asksOne_94 f12_187 sh82 (fun _ _ => rfl) (rf82_75 hR) ?_
              refine go_iload (x := a1) dX12_asksOne_97 rfl ?_
              refine go_dup2 dX12_asksOne_99 rfl rfl ?_
              refine go_iald' (v := (h5.1 140 a1.toNatClampNeg)) dX12_asksOne_100 sh140 vc.1 rfl ?_
              have vc := vc.2
              refine go_iconst (v := 1) dX12_asksOne_101 rfl ?_
              refine go_iload_n (x := v1) dX12_asksOne_102 rfl ?_
              refine go_ishl dX12_asksOne_103 ?_
              refine go_ior dX12_asksOne_104 ?_
              refine go_iast dX12_asksOne_105 sh140 vc.1 ?_
              have vc := vc.2
              show gg p l e s m args below meth c G (d + 1) MX12_asksOne Q 106 [some (.ref 82), some (.int a1), some (.int v1), some (.int (h1.1 139 v1.toNatClampNeg)), some (.int 0), some (.int a1)] [] (sI h5 140 a1.toNatClampNeg ((h5.1 140 a1.toNatClampNeg) ||| (1 <<< (v1 &&& 31))))
              refine go_iconst (v := 1) dX12_asksOne_106 rfl ?_
              exact go_zret dX12_asksOne_107 rfl (by decide) vc rfl (Nat.le_refl _) (Nat.le_refl _)
          · replace vc := vc.2 q
            refine go_iconst (v := 1) dX12_asksOne_56 rfl ?_
            refine go_goto 61 dX12_asksOne_57 rfl ?_
            refine go_istore dX12_asksOne_61 (Nat.le_of_ble_eq_true rfl) ?_
            show gg p l e s m args below meth c G (d + 1) MX12_asksOne Q 63 [some (.ref 82), some (.int a1), some (.int v1), some (.int (h1.1 139 v1.toNatClampNeg)), some (.int 1), none] [] h5
            refine go_iload (x := 1) dX12_asksOne_63 rfl ?_
            refine go_if_eq 75 dX12_asksOne_65 rfl (fun q => absurd q (by decide)) (fun q => ?_)
            refine go_aload_n (x := 82) dX12_asksOne_68 rfl ?_
            refine go_getR (x := 139) dX12_asksOne_69 f12_184 sh82 (fun _ _ => rfl) (rf82_74 hR) ?_
            refine go_iload_n (x := v1) dX12_asksOne_72 rfl ?_
            refine go_iload_n (x := a1) dX12_asksOne_73 rfl ?_
            refine go_iast dX12_asksOne_74 sh139 vc.1 ?_
            have vc := vc.2
            show gg p l e s m args below meth c G (d + 1) MX12_asksOne Q 75 [some (.ref 82), some (.int a1), some (.int v1), some (.int (h1.1 139 v1.toNatClampNeg)), some (.int 1), none] [] (sI h5 139 v1.toNatClampNeg a1)
            refine go_iload (x := 1) dX12_asksOne_75 rfl ?_
            refine go_if_eq 84 dX12_asksOne_77 rfl (fun q => absurd q (by decide)) (fun q => ?_)
            refine go_iload_n (x := (h1.1 139 v1.toNatClampNeg)) dX12_asksOne_80 rfl ?_
            refine go_goto 85 dX12_asksOne_81 rfl ?_
            refine go_istore dX12_asksOne_85 (Nat.le_of_ble_eq_true rfl) ?_
            show gg p l e s m args below meth c G (d + 1) MX12_asksOne Q 87 [some (.ref 82), some (.int a1), some (.int v1), some (.int (h1.1 139 v1.toNatClampNeg)), some (.int 1), some (.int (h1.1 139 v1.toNatClampNeg))] [] (sI h5 139 v1.toNatClampNeg a1)
            refine go_iload (x := (h1.1 139 v1.toNatClampNeg)) dX12_asksOne_87 rfl ?_
            refine go_iconst (v := (-1)) dX12_asksOne_89 rfl ?_
            refine go_icmp_eq 106 dX12_asksOne_90 rfl (fun q => ?_) (fun q => ?_)
            · replace vc := vc.1 q
              refine go_iconst (v := 1) dX12_asksOne_106 rfl ?_
              exact go_zret dX12_asksOne_107 rfl (by decide) vc rfl (Nat.le_refl _) (Nat.le_refl _)
            · replace vc := vc.2 q
              refine go_aload_n (x := 82) dX12_asksOne_93 rfl ?_
              refine go_getR (x := 140) dX12_asksOne_94 f12_187 sh82 (fun _ _ => rfl) (rf82_75 hR) ?_
              refine go_iload (x := (h1.1 139 v1.toNatClampNeg)) dX12_asksOne_97 rfl ?_
              refine go_dup2 dX12_asksOne_99 rfl rfl ?_
              refine go_iald' (v := (h5.1 140 ((h1.1 139 v1.toNatClampNeg) : Int32).toNatClampNeg)) dX12_asksOne_100 sh140 vc.1 rfl ?_
              have vc := vc.2
              refine go_iconst (v := 1) dX12_asksOne_101 rfl ?_
              refine go_iload_n (x := v1) dX12_asksOne_102 rfl ?_
              refine go_ishl dX12_asksOne_103 ?_
              refine go_ior dX12_asksOne_104 ?_
              refine go_iast dX12_asksOne_105 sh140 vc.1 ?_
              have vc := vc.2
              show gg p l e s m args below meth c G (d + 1) MX12_asksOne Q 106 [some (.ref 82), some (.int a1), some (.int v1), some (.int (h1.1 139 v1.toNatClampNeg)), some (.int 1), some (.int (h1.1 139 v1.toNatClampNeg))] [] (sI (sI h5 139 v1.toNatClampNeg a1) 140 ((h1.1 139 v1.toNatClampNeg) : Int32).toNatClampNeg ((h5.1 140 ((h1.1 139 v1.toNatClampNeg) : Int32).toNatClampNeg) ||| (1 <<< (v1 &&& 31))))
              refine go_iconst (v := 1) dX12_asksOne_106 rfl ?_
              exact go_zret dX12_asksOne_107 rfl (by decide) vc rfl (Nat.le_refl _) (Nat.le_refl _)
  · replace vc := vc.2 q
    refine go_iconst (v := 0) dX12_asksOne_11 rfl ?_
    exact go_zret dX12_asksOne_12 rfl (by decide) vc rfl (Nat.le_refl _) (Nat.le_refl _)
set_option maxRecDepth 20000 in
theorem wX12_isFree_0 {p : Program} {l : Launch} {e : Env} {s : State} {m : MethodId} {args : Array Value} {below : List Frame} {meth : Method} {c : Code} {G : gG} {d : Nat} {Q : Option Value → gH → Prop} {h : gH} {lk sp : Nat} {cd : Option Nat} {a1 : Int32} (hR : h.2.2 = gRF lk sp cd) (hlk : lk = 30 ∨ lk = 67) (hsp : sp = 30 ∨ sp = 67)  (vc : gg p l e s m args below meth c G (d + 1) MX12_isFree Q 2 [some (.ref 82), some (.int a1), some (.int 0)] [] h) : gg p l e s m args below meth c G (d + 1) MX12_isFree Q 0 [some (.ref 82), some (.int a1), none] [] h := by
  refine go_iconst (v := 0) dX12_isFree_0 rfl ?_
  refine go_istore_n dX12_isFree_1 (Nat.le_of_ble_eq_true rfl) ?_
  show gg p l e s m args below meth c G (d + 1) MX12_isFree Q 2 [some (.ref 82), some (.int a1), some (.int 0)] [] h
  exact vc
set_option maxRecDepth 20000 in
theorem wX12_isFree_2 {p : Program} {l : Launch} {e : Env} {s : State} {m : MethodId} {args : Array Value} {below : List Frame} {meth : Method} {c : Code} {G : gG} {d : Nat} {Q : Option Value → gH → Prop} {h : gH} {lk sp : Nat} {cd : Option Nat} {x1 : Int32} {x2 : Int32} (hR : h.2.2 = gRF lk sp cd) (hlk : lk = 30 ∨ lk = 67) (hsp : sp = 30 ∨ sp = 67)  (vc : gC l G d MX12_handMany [.ref 82] h (rI fun v1 h1 => h1.2.2 = (h).2.2 ∧ ((v1 ≤ x2 → Q (some (.int 1)) h1) ∧ (¬ v1 ≤ x2 → (vp_in x2 6 ∧ ((¬ (h1.1 139 x2.toNatClampNeg) = x1 → gg p l e s m args below meth c G (d + 1) MX12_isFree Q 2 [some (.ref 82), some (.int x1), some (.int (x2 + 1))] [] h1) ∧ ((h1.1 139 x2.toNatClampNeg) = x1 → Q (some (.int 0)) h1))))))) : gg p l e s m args below meth c G (d + 1) MX12_isFree Q 2 [some (.ref 82), some (.int x1), some (.int x2)] [] h := by
  refine go_iload_n (x := x2) dX12_isFree_2 rfl ?_
  refine go_aload_n (x := 82) dX12_isFree_3 rfl ?_
  refine gvI0 MX12_handMany dX12_isFree_4 lX12_572 kX12_handMany vX12_handMany sh82 (by decide) rfl (Nat.le_of_ble_eq_true rfl) vc ?_
  intro v1 h1 vc
  obtain ⟨hR1, vc⟩ := vc
  replace hR := hR1.trans hR
  refine go_icmp_ge 28 dX12_isFree_7 rfl (fun q => ?_) (fun q => ?_)
  · replace vc := vc.1 q
    refine go_iconst (v := 1) dX12_isFree_28 rfl ?_
    exact go_zret dX12_isFree_29 rfl (by decide) vc rfl (Nat.le_refl _) (Nat.le_refl _)
  · replace vc := vc.2 q
    refine go_aload_n (x := 82) dX12_isFree_10 rfl ?_
    refine go_getR (x := 139) dX12_isFree_11 f12_184 sh82 (fun _ _ => rfl) (rf82_74 hR) ?_
    refine go_iload_n (x := x2) dX12_isFree_14 rfl ?_
    refine go_iald' (v := (h1.1 139 x2.toNatClampNeg)) dX12_isFree_15 sh139 vc.1 rfl ?_
    have vc := vc.2
    refine go_iload_n (x := x1) dX12_isFree_16 rfl ?_
    refine go_icmp_ne 22 dX12_isFree_17 rfl (fun q => ?_) (fun q => ?_)
    · replace vc := vc.1 q
      refine go_iinc (x := x2) dX12_isFree_22 rfl ?_
      show gg p l e s m args below meth c G (d + 1) MX12_isFree Q 25 [some (.ref 82), some (.int x1), some (.int (x2 + 1))] [] h1
      refine go_goto 2 dX12_isFree_25 rfl ?_
      exact vc
    · replace vc := vc.2 q
      refine go_iconst (v := 0) dX12_isFree_20 rfl ?_
      exact go_zret dX12_isFree_21 rfl (by decide) vc rfl (Nat.le_refl _) (Nat.le_refl _)
set_option maxRecDepth 20000 in
theorem wX12_match_0 {p : Program} {l : Launch} {e : Env} {s : State} {m : MethodId} {args : Array Value} {below : List Frame} {meth : Method} {c : Code} {G : gG} {d : Nat} {Q : Option Value → gH → Prop} {h : gH} {lk sp : Nat} {cd : Option Nat} {a1 : Int32} (hR : h.2.2 = gRF lk sp cd) (hlk : lk = 30 ∨ lk = 67) (hsp : sp = 30 ∨ sp = 67)  (vc : gC l G d MX12_isBoat [.ref 82, .int a1] h (rI fun v1 h1 => h1.2.2 = (h).2.2 ∧ ((¬ v1 = 0 → gg p l e s m args below meth c G (d + 1) MX12_match Q 12 [some (.ref 82), some (.int a1), some (.int 0), none] [] h1) ∧ (v1 = 0 → Q (some (.int (-1))) h1)))) : gg p l e s m args below meth c G (d + 1) MX12_match Q 0 [some (.ref 82), some (.int a1), none, none] [] h := by
  refine go_aload_n (x := 82) dX12_match_0 rfl ?_
  refine go_iload_n (x := a1) dX12_match_1 rfl ?_
  refine gvI1 MX12_isBoat dX12_match_2 lX12_564 kX12_isBoat vX12_isBoat sh82 (by decide) rfl (Nat.le_of_ble_eq_true rfl) vc ?_
  intro v1 h1 vc
  obtain ⟨hR1, vc⟩ := vc
  replace hR := hR1.trans hR
  refine go_if_ne 10 dX12_match_5 rfl (fun q => ?_) (fun q => ?_)
  · replace vc := vc.1 q
    refine go_iconst (v := 0) dX12_match_10 rfl ?_
    refine go_istore_n dX12_match_11 (Nat.le_of_ble_eq_true rfl) ?_
    show gg p l e s m args below meth c G (d + 1) MX12_match Q 12 [some (.ref 82), some (.int a1), some (.int 0), none] [] h1
    exact vc
  · replace vc := vc.2 q
    refine go_iconst (v := (-1)) dX12_match_8 rfl ?_
    exact go_iret dX12_match_9 rfl vc rfl (Nat.le_refl _) (Nat.le_refl _)
set_option maxRecDepth 20000 in
theorem wX12_match_12 {p : Program} {l : Launch} {e : Env} {s : State} {m : MethodId} {args : Array Value} {below : List Frame} {meth : Method} {c : Code} {G : gG} {d : Nat} {Q : Option Value → gH → Prop} {h : gH} {lk sp : Nat} {cd : Option Nat} {x1 : Int32} {x2 : Int32} (hR : h.2.2 = gRF lk sp cd) (hlk : lk = 30 ∨ lk = 67) (hsp : sp = 30 ∨ sp = 67)  (vc : ((6 ≤ x2 → gg p l e s m args below meth c G (d + 1) MX12_match Q 40 [some (.ref 82), some (.int x1), some (.int 1), none] [] h) ∧ (¬ 6 ≤ x2 → (vp_in x2 6 ∧ (vp_in x2 6 ∧ gg p l e s m args below meth c G (d + 1) MX12_match Q 12 [some (.ref 82), some (.int x1), some (.int (x2 + 1)), none] [] (sI (sI h 139 x2.toNatClampNeg (-1)) 140 x2.toNatClampNeg 0)))))) : gg p l e s m args below meth c G (d + 1) MX12_match Q 12 [some (.ref 82), some (.int x1), some (.int x2), none] [] h := by
  refine go_iload_n (x := x2) dX12_match_12 rfl ?_
  refine go_bipush (v := 6) dX12_match_13 rfl ?_
  refine go_icmp_ge 38 dX12_match_15 rfl (fun q => ?_) (fun q => ?_)
  · replace vc := vc.1 q
    refine go_iconst (v := 1) dX12_match_38 rfl ?_
    refine go_istore_n dX12_match_39 (Nat.le_of_ble_eq_true rfl) ?_
    show gg p l e s m args below meth c G (d + 1) MX12_match Q 40 [some (.ref 82), some (.int x1), some (.int 1), none] [] h
    exact vc
  · replace vc := vc.2 q
    refine go_aload_n (x := 82) dX12_match_18 rfl ?_
    refine go_getR (x := 139) dX12_match_19 f12_184 sh82 (fun _ _ => rfl) (rf82_74 hR) ?_
    refine go_iload_n (x := x2) dX12_match_22 rfl ?_
    refine go_iconst (v := (-1)) dX12_match_23 rfl ?_
    refine go_iast dX12_match_24 sh139 vc.1 ?_
    have vc := vc.2
    show gg p l e s m args below meth c G (d + 1) MX12_match Q 25 [some (.ref 82), some (.int x1), some (.int x2), none] [] (sI h 139 x2.toNatClampNeg (-1))
    refine go_aload_n (x := 82) dX12_match_25 rfl ?_
    refine go_getR (x := 140) dX12_match_26 f12_187 sh82 (fun _ _ => rfl) (rf82_75 hR) ?_
    refine go_iload_n (x := x2) dX12_match_29 rfl ?_
    refine go_iconst (v := 0) dX12_match_30 rfl ?_
    refine go_iast dX12_match_31 sh140 vc.1 ?_
    have vc := vc.2
    show gg p l e s m args below meth c G (d + 1) MX12_match Q 32 [some (.ref 82), some (.int x1), some (.int x2), none] [] (sI (sI h 139 x2.toNatClampNeg (-1)) 140 x2.toNatClampNeg 0)
    refine go_iinc (x := x2) dX12_match_32 rfl ?_
    show gg p l e s m args below meth c G (d + 1) MX12_match Q 35 [some (.ref 82), some (.int x1), some (.int (x2 + 1)), none] [] (sI (sI h 139 x2.toNatClampNeg (-1)) 140 x2.toNatClampNeg 0)
    refine go_goto 12 dX12_match_35 rfl ?_
    exact vc
set_option maxRecDepth 20000 in
theorem wX12_match_40 {p : Program} {l : Launch} {e : Env} {s : State} {m : MethodId} {args : Array Value} {below : List Frame} {meth : Method} {c : Code} {G : gG} {d : Nat} {Q : Option Value → gH → Prop} {h : gH} {lk sp : Nat} {cd : Option Nat} {x1 : Int32} {x2 : Int32} (hR : h.2.2 = gRF lk sp cd) (hlk : lk = 30 ∨ lk = 67) (hsp : sp = 30 ∨ sp = 67)  (vc : ((x2 = 0 → gg p l e s m args below meth c G (d + 1) MX12_match Q 85 [some (.ref 82), some (.int x1), some (.int x2), some (.int 0)] [] h) ∧ (¬ x2 = 0 → gg p l e s m args below meth c G (d + 1) MX12_match Q 48 [some (.ref 82), some (.int x1), some (.int 0), some (.int 0)] [] h))) : gg p l e s m args below meth c G (d + 1) MX12_match Q 40 [some (.ref 82), some (.int x1), some (.int x2), none] [] h := by
  refine go_iload_n (x := x2) dX12_match_40 rfl ?_
  refine go_if_eq 83 dX12_match_41 rfl (fun q => ?_) (fun q => ?_)
  · replace vc := vc.1 q
    refine go_iconst (v := 0) dX12_match_83 rfl ?_
    refine go_istore_n dX12_match_84 (Nat.le_of_ble_eq_true rfl) ?_
    show gg p l e s m args below meth c G (d + 1) MX12_match Q 85 [some (.ref 82), some (.int x1), some (.int x2), some (.int 0)] [] h
    exact vc
  · replace vc := vc.2 q
    refine go_iconst (v := 0) dX12_match_44 rfl ?_
    refine go_istore_n dX12_match_45 (Nat.le_of_ble_eq_true rfl) ?_
    show gg p l e s m args below meth c G (d + 1) MX12_match Q 46 [some (.ref 82), some (.int x1), some (.int 0), none] [] h
    refine go_iconst (v := 0) dX12_match_46 rfl ?_
    refine go_istore_n dX12_match_47 (Nat.le_of_ble_eq_true rfl) ?_
    show gg p l e s m args below meth c G (d + 1) MX12_match Q 48 [some (.ref 82), some (.int x1), some (.int 0), some (.int 0)] [] h
    exact vc
set_option maxRecDepth 20000 in
theorem wX12_match_48 {p : Program} {l : Launch} {e : Env} {s : State} {m : MethodId} {args : Array Value} {below : List Frame} {meth : Method} {c : Code} {G : gG} {d : Nat} {Q : Option Value → gH → Prop} {h : gH} {lk sp : Nat} {cd : Option Nat} {x1 : Int32} {x2 : Int32} {x3 : Int32} (hR : h.2.2 = gRF lk sp cd) (hlk : lk = 30 ∨ lk = 67) (hsp : sp = 30 ∨ sp = 67)  (vc : gC l G d MX12_boatMany [.ref 82] h (rI fun v1 h1 => h1.2.2 = (h).2.2 ∧ ((v1 ≤ x3 → gg p l e s m args below meth c G (d + 1) MX12_match Q 40 [some (.ref 82), some (.int x1), some (.int x2), none] [] h1) ∧ (¬ v1 ≤ x3 → gC l G d MX12_isFree [.ref 82, .int x3] h1 (rI fun v2 h2 => h2.2.2 = (h1).2.2 ∧ ((v2 = 0 → gg p l e s m args below meth c G (d + 1) MX12_match Q 48 [some (.ref 82), some (.int x1), some (.int x2), some (.int (x3 + 1))] [] h2) ∧ (¬ v2 = 0 → gC l G d MX12_asksOne [.ref 82, .int x3] h2 (rI fun v3 h3 => h3.2.2 = (h2).2.2 ∧ ((v3 = 0 → gg p l e s m args below meth c G (d + 1) MX12_match Q 48 [some (.ref 82), some (.int x1), some (.int x2), some (.int (x3 + 1))] [] h3) ∧ (¬ v3 = 0 → gg p l e s m args below meth c G (d + 1) MX12_match Q 48 [some (.ref 82), some (.int x1), some (.int 1), some (.int (x3 + 1))] [] h3)))))))))) : gg p l e s m args below meth c G (d + 1) MX12_match Q 48 [some (.ref 82), some (.int x1), some (.int x2), some (.int x3)] [] h := by
  refine go_iload_n (x := x3) dX12_match_48 rfl ?_
  refine go_aload_n (x := 82) dX12_match_49 rfl ?_
  refine gvI0 MX12_boatMany dX12_match_50 lX12_483 kX12_boatMany vX12_boatMany sh82 (by decide) rfl (Nat.le_of_ble_eq_true rfl) vc ?_
  intro v1 h1 vc
  obtain ⟨hR1, vc⟩ := vc
  replace hR := hR1.trans hR
  refine go_icmp_ge 80 dX12_match_53 rfl (fun q => ?_) (fun q => ?_)
  · replace vc := vc.1 q
    refine go_goto 40 dX12_match_80 rfl ?_
    refine go_weak (ls' := [some (.ref 82), some (.int x1), some (.int x2), none]) ?_ vc
    exact (⟨rfl, ⟨rfl, ⟨rfl, trivial⟩⟩⟩)
  · replace vc := vc.2 q
    refine go_aload_n (x := 82) dX12_match_56 rfl ?_
    refine go_iload_n (x := x3) dX12_match_57 rfl ?_
    refine gvI1 MX12_isFree dX12_match_58 lX12_639 kX12_isFree vX12_isFree sh82 (by decide) rfl (Nat.le_of_ble_eq_true rfl) vc ?_
    intro v2 h2 vc
    obtain ⟨hR2, vc⟩ := vc
    replace hR := hR2.trans hR
    refine go_if_eq 74 dX12_match_61 rfl (fun q => ?_) (fun q => ?_)
    · replace vc := vc.1 q
      refine go_iinc (x := x3) dX12_match_74 rfl ?_
      show gg p l e s m args below meth c G (d + 1) MX12_match Q 77 [some (.ref 82), some (.int x1), some (.int x2), some (.int (x3 + 1))] [] h2
      refine go_goto 48 dX12_match_77 rfl ?_
      exact vc
    · replace vc := vc.2 q
      refine go_aload_n (x := 82) dX12_match_64 rfl ?_
      refine go_iload_n (x := x3) dX12_match_65 rfl ?_
      refine gvI1 MX12_asksOne dX12_match_66 lX12_642 kX12_asksOne vX12_asksOne sh82 (by decide) rfl (Nat.le_of_ble_eq_true rfl) vc ?_
      intro v3 h3 vc
      obtain ⟨hR3, vc⟩ := vc
      replace hR := hR3.trans hR
      refine go_if_eq 74 dX12_match_69 rfl (fun q => ?_) (fun q => ?_)
      · replace vc := vc.1 q
        refine go_iinc (x := x3) dX12_match_74 rfl ?_
        show gg p l e s m args below meth c G (d + 1) MX12_match Q 77 [some (.ref 82), some (.int x1), some (.int x2), some (.int (x3 + 1))] [] h3
        refine go_goto 48 dX12_match_77 rfl ?_
        exact vc
      · replace vc := vc.2 q
        refine go_iconst (v := 1) dX12_match_72 rfl ?_
        refine go_istore_n dX12_match_73 (Nat.le_of_ble_eq_true rfl) ?_
        show gg p l e s m args below meth c G (d + 1) MX12_match Q 74 [some (.ref 82), some (.int x1), some (.int 1), some (.int x3)] [] h3
        refine go_iinc (x := x3) dX12_match_74 rfl ?_
        show gg p l e s m args below meth c G (d + 1) MX12_match Q 77 [some (.ref 82), some (.int x1), some (.int 1), some (.int (x3 + 1))] [] h3
        refine go_goto 48 dX12_match_77 rfl ?_
        exact vc
set_option maxRecDepth 20000 in
theorem wX12_match_85 {p : Program} {l : Launch} {e : Env} {s : State} {m : MethodId} {args : Array Value} {below : List Frame} {meth : Method} {c : Code} {G : gG} {d : Nat} {Q : Option Value → gH → Prop} {h : gH} {lk sp : Nat} {cd : Option Nat} {x1 : Int32} {x2 : Int32} {x3 : Int32} (hR : h.2.2 = gRF lk sp cd) (hlk : lk = 30 ∨ lk = 67) (hsp : sp = 30 ∨ sp = 67)  (vc : gC l G d MX12_handMany [.ref 82] h (rI fun v1 h1 => h1.2.2 = (h).2.2 ∧ ((v1 ≤ x3 → Q (some (.int (-1))) h1) ∧ (¬ v1 ≤ x3 → (vp_in x3 6 ∧ ((¬ (h1.1 139 x3.toNatClampNeg) = x1 → gg p l e s m args below meth c G (d + 1) MX12_match Q 85 [some (.ref 82), some (.int x1), some (.int x2), some (.int (x3 + 1))] [] h1) ∧ ((h1.1 139 x3.toNatClampNeg) = x1 → Q (some (.int x3)) h1))))))) : gg p l e s m args below meth c G (d + 1) MX12_match Q 85 [some (.ref 82), some (.int x1), some (.int x2), some (.int x3)] [] h := by
  refine go_iload_n (x := x3) dX12_match_85 rfl ?_
  refine go_aload_n (x := 82) dX12_match_86 rfl ?_
  refine gvI0 MX12_handMany dX12_match_87 lX12_572 kX12_handMany vX12_handMany sh82 (by decide) rfl (Nat.le_of_ble_eq_true rfl) vc ?_
  intro v1 h1 vc
  obtain ⟨hR1, vc⟩ := vc
  replace hR := hR1.trans hR
  refine go_icmp_ge 111 dX12_match_90 rfl (fun q => ?_) (fun q => ?_)
  · replace vc := vc.1 q
    refine go_iconst (v := (-1)) dX12_match_111 rfl ?_
    exact go_iret dX12_match_112 rfl vc rfl (Nat.le_refl _) (Nat.le_refl _)
  · replace vc := vc.2 q
    refine go_aload_n (x := 82) dX12_match_93 rfl ?_
    refine go_getR (x := 139) dX12_match_94 f12_184 sh82 (fun _ _ => rfl) (rf82_74 hR) ?_
    refine go_iload_n (x := x3) dX12_match_97 rfl ?_
    refine go_iald' (v := (h1.1 139 x3.toNatClampNeg)) dX12_match_98 sh139 vc.1 rfl ?_
    have vc := vc.2
    refine go_iload_n (x := x1) dX12_match_99 rfl ?_
    refine go_icmp_ne 105 dX12_match_100 rfl (fun q => ?_) (fun q => ?_)
    · replace vc := vc.1 q
      refine go_iinc (x := x3) dX12_match_105 rfl ?_
      show gg p l e s m args below meth c G (d + 1) MX12_match Q 108 [some (.ref 82), some (.int x1), some (.int x2), some (.int (x3 + 1))] [] h1
      refine go_goto 85 dX12_match_108 rfl ?_
      exact vc
    · replace vc := vc.2 q
      refine go_iload_n (x := x3) dX12_match_103 rfl ?_
      exact go_iret dX12_match_104 rfl vc rfl (Nat.le_refl _) (Nat.le_refl _)
set_option maxRecDepth 20000 in
theorem wX12_trials_0 {p : Program} {l : Launch} {e : Env} {s : State} {m : MethodId} {args : Array Value} {below : List Frame} {meth : Method} {c : Code} {G : gG} {d : Nat} {Q : Option Value → gH → Prop} {h : gH} {lk sp : Nat} {cd : Option Nat} {a1 : Int32} (hR : h.2.2 = gRF lk sp cd) (hlk : lk = 30 ∨ lk = 67) (hsp : sp = 30 ∨ sp = 67)  (vc : gC l G d MX12_isBoat [.ref 82, .int a1] (sI h 82 1 0) (rI fun v1 h1 => h1.2.2 = ((sI h 82 1 0)).2.2 ∧ ((v1 = 0 → gg p l e s m args below meth c G (d + 1) MX12_trials Q 45 [some (.ref 82), some (.int a1), some (.int (h.1 82 1)), some (.int 0), some (.int 0)] [] h1) ∧ (¬ v1 = 0 → (((h.1 82 1) ≤ 0 → gg p l e s m args below meth c G (d + 1) MX12_trials Q 45 [some (.ref 82), some (.int a1), some (.int (h.1 82 1)), some (.int 0), some (.int 0)] [] h1) ∧ (¬ (h.1 82 1) ≤ 0 → ((¬ ((h.1 82 1) - (h.1 82 1) / 2 * 2) = 0 → gg p l e s m args below meth c G (d + 1) MX12_trials Q 45 [some (.ref 82), some (.int a1), some (.int (h.1 82 1)), some (.int 0), some (.int 0)] [] h1) ∧ (((h.1 82 1) - (h.1 82 1) / 2 * 2) = 0 → ((20 < ((h.1 82 1) / 2) → gg p l e s m args below meth c G (d + 1) MX12_trials Q 45 [some (.ref 82), some (.int a1), some (.int (h.1 82 1)), some (.int 0), some (.int 0)] [] h1) ∧ (¬ 20 < ((h.1 82 1) / 2) → gg p l e s m args below meth c G (d + 1) MX12_trials Q 45 [some (.ref 82), some (.int a1), some (.int (h.1 82 1)), some (.int 1), some (.int 0)] [] h1)))))))))) : gg p l e s m args below meth c G (d + 1) MX12_trials Q 0 [some (.ref 82), some (.int a1), none, none, none] [] h := by
  refine go_aload_n (x := 82) dX12_trials_0 rfl ?_
  refine go_getI' (v := (h.1 82 1)) dX12_trials_1 f12_275 sh82 (fun _ _ => rfl) rfl ?_
  refine go_istore_n dX12_trials_4 (Nat.le_of_ble_eq_true rfl) ?_
  show gg p l e s m args below meth c G (d + 1) MX12_trials Q 5 [some (.ref 82), some (.int a1), some (.int (h.1 82 1)), none, none] [] h
  refine go_aload_n (x := 82) dX12_trials_5 rfl ?_
  refine go_iconst (v := 0) dX12_trials_6 rfl ?_
  refine go_putI dX12_trials_7 f12_275 sh82 rfl rfl ?_
  refine go_aload_n (x := 82) dX12_trials_10 rfl ?_
  refine go_iload_n (x := a1) dX12_trials_11 rfl ?_
  refine gvI1 MX12_isBoat dX12_trials_12 lX12_564 kX12_isBoat vX12_isBoat sh82 (by decide) rfl (Nat.le_of_ble_eq_true rfl) vc ?_
  intro v1 h1 vc
  obtain ⟨hR1, vc⟩ := vc
  replace hR := hR1.trans hR
  refine go_if_eq 40 dX12_trials_15 rfl (fun q => ?_) (fun q => ?_)
  · replace vc := vc.1 q
    refine go_iconst (v := 0) dX12_trials_40 rfl ?_
    refine go_istore_n dX12_trials_41 (Nat.le_of_ble_eq_true rfl) ?_
    show gg p l e s m args below meth c G (d + 1) MX12_trials Q 42 [some (.ref 82), some (.int a1), some (.int (h.1 82 1)), some (.int 0), none] [] h1
    refine go_iconst (v := 0) dX12_trials_42 rfl ?_
    refine go_istore dX12_trials_43 (Nat.le_of_ble_eq_true rfl) ?_
    show gg p l e s m args below meth c G (d + 1) MX12_trials Q 45 [some (.ref 82), some (.int a1), some (.int (h.1 82 1)), some (.int 0), some (.int 0)] [] h1
    exact vc
  · replace vc := vc.2 q
    refine go_iload_n (x := (h.1 82 1)) dX12_trials_18 rfl ?_
    refine go_if_le 40 dX12_trials_19 rfl (fun q => ?_) (fun q => ?_)
    · replace vc := vc.1 q
      refine go_iconst (v := 0) dX12_trials_40 rfl ?_
      refine go_istore_n dX12_trials_41 (Nat.le_of_ble_eq_true rfl) ?_
      show gg p l e s m args below meth c G (d + 1) MX12_trials Q 42 [some (.ref 82), some (.int a1), some (.int (h.1 82 1)), some (.int 0), none] [] h1
      refine go_iconst (v := 0) dX12_trials_42 rfl ?_
      refine go_istore dX12_trials_43 (Nat.le_of_ble_eq_true rfl) ?_
      show gg p l e s m args below meth c G (d + 1) MX12_trials Q 45 [some (.ref 82), some (.int a1), some (.int (h.1 82 1)), some (.int 0), some (.int 0)] [] h1
      exact vc
    · replace vc := vc.2 q
      refine go_iload_n (x := (h.1 82 1)) dX12_trials_22 rfl ?_
      refine go_iconst (v := 2) dX12_trials_23 rfl ?_
      refine go_irem dX12_trials_24 (by decide) ?_
      refine go_if_ne 40 dX12_trials_25 rfl (fun q => ?_) (fun q => ?_)
      · replace vc := vc.1 q
        refine go_iconst (v := 0) dX12_trials_40 rfl ?_
        refine go_istore_n dX12_trials_41 (Nat.le_of_ble_eq_true rfl) ?_
        show gg p l e s m args below meth c G (d + 1) MX12_trials Q 42 [some (.ref 82), some (.int a1), some (.int (h.1 82 1)), some (.int 0), none] [] h1
        refine go_iconst (v := 0) dX12_trials_42 rfl ?_
        refine go_istore dX12_trials_43 (Nat.le_of_ble_eq_true rfl) ?_
        show gg p l e s m args below meth c G (d + 1) MX12_trials Q 45 [some (.ref 82), some (.int a1), some (.int (h.1 82 1)), some (.int 0), some (.int 0)] [] h1
        exact vc
      · replace vc := vc.2 q
        refine go_iload_n (x := (h.1 82 1)) dX12_trials_28 rfl ?_
        refine go_iconst (v := 2) dX12_trials_29 rfl ?_
        refine go_idiv dX12_trials_30 (by decide) ?_
        refine go_bipush (v := 20) dX12_trials_31 rfl ?_
        refine go_icmp_gt 40 dX12_trials_33 rfl (fun q => ?_) (fun q => ?_)
        · replace vc := vc.1 q
          refine go_iconst (v := 0) dX12_trials_40 rfl ?_
          refine go_istore_n dX12_trials_41 (Nat.le_of_ble_eq_true rfl) ?_
          show gg p l e s m args below meth c G (d + 1) MX12_trials Q 42 [some (.ref 82), some (.int a1), some (.int (h.1 82 1)), some (.int 0), none] [] h1
          refine go_iconst (v := 0) dX12_trials_42 rfl ?_
          refine go_istore dX12_trials_43 (Nat.le_of_ble_eq_true rfl) ?_
          show gg p l e s m args below meth c G (d + 1) MX12_trials Q 45 [some (.ref 82), some (.int a1), some (.int (h.1 82 1)), some (.int 0), some (.int 0)] [] h1
          exact vc
        · replace vc := vc.2 q
          refine go_iconst (v := 1) dX12_trials_36 rfl ?_
          refine go_goto 41 dX12_trials_37 rfl ?_
          refine go_istore_n dX12_trials_41 (Nat.le_of_ble_eq_true rfl) ?_
          show gg p l e s m args below meth c G (d + 1) MX12_trials Q 42 [some (.ref 82), some (.int a1), some (.int (h.1 82 1)), some (.int 1), none] [] h1
          refine go_iconst (v := 0) dX12_trials_42 rfl ?_
          refine go_istore dX12_trials_43 (Nat.le_of_ble_eq_true rfl) ?_
          show gg p l e s m args below meth c G (d + 1) MX12_trials Q 45 [some (.ref 82), some (.int a1), some (.int (h.1 82 1)), some (.int 1), some (.int 0)] [] h1
          exact vc
set_option maxRecDepth 20000 in
theorem wX12_trials_45 {p : Program} {l : Launch} {e : Env} {s : State} {m : MethodId} {args : Array Value} {below : List Frame} {meth : Method} {c : Code} {G : gG} {d : Nat} {Q : Option Value → gH → Prop} {h : gH} {lk sp : Nat} {cd : Option Nat} {x1 : Int32} {x2 : Int32} {x3 : Int32} {x4 : Int32} (hR : h.2.2 = gRF lk sp cd) (hlk : lk = 30 ∨ lk = 67) (hsp : sp = 30 ∨ sp = 67)  (vc : ((x2 ≤ x4 → ((¬ x3 = 0 → gg p l e s m args below meth c G (d + 1) MX12_trials Q 113 [some (.ref 82), some (.int x1), some (.int x2), some (.int x3), some (.int 0)] [] h) ∧ (x3 = 0 → Q (some (.int (-1))) (sI h 84 1 ((h.1 84 1) + 1))))) ∧ (¬ x2 ≤ x4 → ((x3 = 0 → ((¬ x3 = 0 → gg p l e s m args below meth c G (d + 1) MX12_trials Q 113 [some (.ref 82), some (.int x1), some (.int x2), some (.int x3), some (.int 0)] [] h) ∧ (x3 = 0 → Q (some (.int (-1))) (sI h 84 1 ((h.1 84 1) + 1))))) ∧ (¬ x3 = 0 → (vp_in x4 1600 ∧ gC l G d MX12_isWater [.ref 82, .int (h.1 83 x4.toNatClampNeg)] h (rI fun v1 h1 => h1.2.2 = (h).2.2 ∧ ((v1 = 0 → gg p l e s m args below meth c G (d + 1) MX12_trials Q 45 [some (.ref 82), some (.int x1), some (.int x2), some (.int 0), some (.int (x4 + 2))] [] h1) ∧ (¬ v1 = 0 → (vp_in ((x4 + 1)) 1600 ∧ ((2 ≤ (h1.1 83 ((x4 + 1) : Int32).toNatClampNeg) → gg p l e s m args below meth c G (d + 1) MX12_trials Q 45 [some (.ref 82), some (.int x1), some (.int x2), some (.int 0), some (.int (x4 + 2))] [] h1) ∧ (¬ 2 ≤ (h1.1 83 ((x4 + 1) : Int32).toNatClampNeg) → gg p l e s m args below meth c G (d + 1) MX12_trials Q 45 [some (.ref 82), some (.int x1), some (.int x2), some (.int 1), some (.int (x4 + 2))] [] h1)))))))))))) : gg p l e s m args below meth c G (d + 1) MX12_trials Q 45 [some (.ref 82), some (.int x1), some (.int x2), some (.int x3), some (.int x4)] [] h := by
  refine go_iload (x := x4) dX12_trials_45 rfl ?_
  refine go_iload_n (x := x2) dX12_trials_47 rfl ?_
  refine go_icmp_ge 94 dX12_trials_48 rfl (fun q => ?_) (fun q => ?_)
  · replace vc := vc.1 q
    refine go_iload_n (x := x3) dX12_trials_94 rfl ?_
    refine go_if_ne 110 dX12_trials_95 rfl (fun q => ?_) (fun q => ?_)
    · replace vc := vc.1 q
      refine go_iconst (v := 0) dX12_trials_110 rfl ?_
      refine go_istore dX12_trials_111 (Nat.le_of_ble_eq_true rfl) ?_
      show gg p l e s m args below meth c G (d + 1) MX12_trials Q 113 [some (.ref 82), some (.int x1), some (.int x2), some (.int x3), some (.int 0)] [] h
      exact vc
    · replace vc := vc.2 q
      refine go_aload_n (x := 82) dX12_trials_98 rfl ?_
      refine go_getR (x := 84) dX12_trials_99 f12_17 sh82 (fun _ _ => rfl) (rf82_9 hR) ?_
      refine go_iconst (v := 1) dX12_trials_102 rfl ?_
      refine go_dup2 dX12_trials_103 rfl rfl ?_
      refine go_iald' (v := (h.1 84 1)) dX12_trials_104 sh84 (by unfold vp_in; decide) rfl ?_
      refine go_iconst (v := 1) dX12_trials_105 rfl ?_
      refine go_iadd dX12_trials_106 ?_
      refine go_iast dX12_trials_107 sh84 (by unfold vp_in; decide) ?_
      refine go_iconst (v := (-1)) dX12_trials_108 rfl ?_
      exact go_iret dX12_trials_109 rfl vc rfl (Nat.le_refl _) (Nat.le_refl _)
  · replace vc := vc.2 q
    refine go_iload_n (x := x3) dX12_trials_51 rfl ?_
    refine go_if_eq 94 dX12_trials_52 rfl (fun q => ?_) (fun q => ?_)
    · replace vc := vc.1 q
      refine go_iload_n (x := x3) dX12_trials_94 rfl ?_
      refine go_if_ne 110 dX12_trials_95 rfl (fun q => ?_) (fun q => ?_)
      · replace vc := vc.1 q
        refine go_iconst (v := 0) dX12_trials_110 rfl ?_
        refine go_istore dX12_trials_111 (Nat.le_of_ble_eq_true rfl) ?_
        show gg p l e s m args below meth c G (d + 1) MX12_trials Q 113 [some (.ref 82), some (.int x1), some (.int x2), some (.int x3), some (.int 0)] [] h
        exact vc
      · replace vc := vc.2 q
        refine go_aload_n (x := 82) dX12_trials_98 rfl ?_
        refine go_getR (x := 84) dX12_trials_99 f12_17 sh82 (fun _ _ => rfl) (rf82_9 hR) ?_
        refine go_iconst (v := 1) dX12_trials_102 rfl ?_
        refine go_dup2 dX12_trials_103 rfl rfl ?_
        refine go_iald' (v := (h.1 84 1)) dX12_trials_104 sh84 (by unfold vp_in; decide) rfl ?_
        refine go_iconst (v := 1) dX12_trials_105 rfl ?_
        refine go_iadd dX12_trials_106 ?_
        refine go_iast dX12_trials_107 sh84 (by unfold vp_in; decide) ?_
        refine go_iconst (v := (-1)) dX12_trials_108 rfl ?_
        exact go_iret dX12_trials_109 rfl vc rfl (Nat.le_refl _) (Nat.le_refl _)
    · replace vc := vc.2 q
      refine go_aload_n (x := 82) dX12_trials_55 rfl ?_
      refine go_aload_n (x := 82) dX12_trials_56 rfl ?_
      refine go_getR (x := 83) dX12_trials_57 f12_7 sh82 (fun _ _ => rfl) (rf82_0 hR) ?_
      refine go_iload (x := x4) dX12_trials_60 rfl ?_
      refine go_iald' (v := (h.1 83 x4.toNatClampNeg)) dX12_trials_62 sh83 vc.1 rfl ?_
      have vc := vc.2
      refine gvI1 MX12_isWater dX12_trials_63 lX12_556 kX12_isWater vX12_isWater sh82 (by decide) rfl (Nat.le_of_ble_eq_true rfl) vc ?_
      intro v1 h1 vc
      obtain ⟨hR1, vc⟩ := vc
      replace hR := hR1.trans hR
      refine go_if_eq 86 dX12_trials_66 rfl (fun q => ?_) (fun q => ?_)
      · replace vc := vc.1 q
        refine go_iconst (v := 0) dX12_trials_86 rfl ?_
        refine go_istore_n dX12_trials_87 (Nat.le_of_ble_eq_true rfl) ?_
        show gg p l e s m args below meth c G (d + 1) MX12_trials Q 88 [some (.ref 82), some (.int x1), some (.int x2), some (.int 0), some (.int x4)] [] h1
        refine go_iinc (x := x4) dX12_trials_88 rfl ?_
        show gg p l e s m args below meth c G (d + 1) MX12_trials Q 91 [some (.ref 82), some (.int x1), some (.int x2), some (.int 0), some (.int (x4 + 2))] [] h1
        refine go_goto 45 dX12_trials_91 rfl ?_
        exact vc
      · replace vc := vc.2 q
        refine go_aload_n (x := 82) dX12_trials_69 rfl ?_
        refine go_getR (x := 83) dX12_trials_70 f12_7 sh82 (fun _ _ => rfl) (rf82_0 hR) ?_
        refine go_iload (x := x4) dX12_trials_73 rfl ?_
        refine go_iconst (v := 1) dX12_trials_75 rfl ?_
        refine go_iadd dX12_trials_76 ?_
        refine go_iald' (v := (h1.1 83 ((x4 + 1) : Int32).toNatClampNeg)) dX12_trials_77 sh83 vc.1 rfl ?_
        have vc := vc.2
        refine go_iconst (v := 2) dX12_trials_78 rfl ?_
        refine go_icmp_ge 86 dX12_trials_79 rfl (fun q => ?_) (fun q => ?_)
        · replace vc := vc.1 q
          refine go_iconst (v := 0) dX12_trials_86 rfl ?_
          refine go_istore_n dX12_trials_87 (Nat.le_of_ble_eq_true rfl) ?_
          show gg p l e s m args below meth c G (d + 1) MX12_trials Q 88 [some (.ref 82), some (.int x1), some (.int x2), some (.int 0), some (.int x4)] [] h1
          refine go_iinc (x := x4) dX12_trials_88 rfl ?_
          show gg p l e s m args below meth c G (d + 1) MX12_trials Q 91 [some (.ref 82), some (.int x1), some (.int x2), some (.int 0), some (.int (x4 + 2))] [] h1
          refine go_goto 45 dX12_trials_91 rfl ?_
          exact vc
        · replace vc := vc.2 q
          refine go_iconst (v := 1) dX12_trials_82 rfl ?_
          refine go_goto 87 dX12_trials_83 rfl ?_
          refine go_istore_n dX12_trials_87 (Nat.le_of_ble_eq_true rfl) ?_
          show gg p l e s m args below meth c G (d + 1) MX12_trials Q 88 [some (.ref 82), some (.int x1), some (.int x2), some (.int 1), some (.int x4)] [] h1
          refine go_iinc (x := x4) dX12_trials_88 rfl ?_
          show gg p l e s m args below meth c G (d + 1) MX12_trials Q 91 [some (.ref 82), some (.int x1), some (.int x2), some (.int 1), some (.int (x4 + 2))] [] h1
          refine go_goto 45 dX12_trials_91 rfl ?_
          exact vc
set_option maxRecDepth 20000 in
theorem wX12_trials_113 {p : Program} {l : Launch} {e : Env} {s : State} {m : MethodId} {args : Array Value} {below : List Frame} {meth : Method} {c : Code} {G : gG} {d : Nat} {Q : Option Value → gH → Prop} {h : gH} {lk sp : Nat} {cd : Option Nat} {x1 : Int32} {x2 : Int32} {x3 : Int32} {x4 : Int32} (hR : h.2.2 = gRF lk sp cd) (hlk : lk = 30 ∨ lk = 67) (hsp : sp = 30 ∨ sp = 67)  (vc : ((x2 ≤ x4 → Q (some (.int (x2 / 2))) (sI (sI h 82 76 (x2 / 2)) 82 77 x1)) ∧ (¬ x2 ≤ x4 → (vp_in x4 1600 ∧ (vp_in x4 40 ∧ gg p l e s m args below meth c G (d + 1) MX12_trials Q 113 [some (.ref 82), some (.int x1), some (.int x2), some (.int x3), some (.int (x4 + 1))] [] (sI h 141 x4.toNatClampNeg (h.1 83 x4.toNatClampNeg))))))) : gg p l e s m args below meth c G (d + 1) MX12_trials Q 113 [some (.ref 82), some (.int x1), some (.int x2), some (.int x3), some (.int x4)] [] h := by
  refine go_iload (x := x4) dX12_trials_113 rfl ?_
  refine go_iload_n (x := x2) dX12_trials_115 rfl ?_
  refine go_icmp_ge 139 dX12_trials_116 rfl (fun q => ?_) (fun q => ?_)
  · replace vc := vc.1 q
    refine go_aload_n (x := 82) dX12_trials_139 rfl ?_
    refine go_iload_n (x := x2) dX12_trials_140 rfl ?_
    refine go_iconst (v := 2) dX12_trials_141 rfl ?_
    refine go_idiv dX12_trials_142 (by decide) ?_
    refine go_putI dX12_trials_143 f12_428 sh82 rfl rfl ?_
    refine go_aload_n (x := 82) dX12_trials_146 rfl ?_
    refine go_iload_n (x := x1) dX12_trials_147 rfl ?_
    refine go_putI dX12_trials_148 f12_645 sh82 rfl rfl ?_
    refine go_aload_n (x := 82) dX12_trials_151 rfl ?_
    refine go_getI' (v := (x2 / 2)) dX12_trials_152 f12_428 sh82 (fun _ _ => rfl) rfl ?_
    exact go_iret dX12_trials_155 rfl vc rfl (Nat.le_refl _) (Nat.le_refl _)
  · replace vc := vc.2 q
    refine go_aload_n (x := 82) dX12_trials_119 rfl ?_
    refine go_getR (x := 141) dX12_trials_120 f12_190 sh82 (fun _ _ => rfl) (rf82_78 hR) ?_
    refine go_iload (x := x4) dX12_trials_123 rfl ?_
    refine go_aload_n (x := 82) dX12_trials_125 rfl ?_
    refine go_getR (x := 83) dX12_trials_126 f12_7 sh82 (fun _ _ => rfl) (rf82_0 hR) ?_
    refine go_iload (x := x4) dX12_trials_129 rfl ?_
    refine go_iald' (v := (h.1 83 x4.toNatClampNeg)) dX12_trials_131 sh83 vc.1 rfl ?_
    have vc := vc.2
    refine go_iast dX12_trials_132 sh141 vc.1 ?_
    have vc := vc.2
    show gg p l e s m args below meth c G (d + 1) MX12_trials Q 133 [some (.ref 82), some (.int x1), some (.int x2), some (.int x3), some (.int x4)] [] (sI h 141 x4.toNatClampNeg (h.1 83 x4.toNatClampNeg))
    refine go_iinc (x := x4) dX12_trials_133 rfl ?_
    show gg p l e s m args below meth c G (d + 1) MX12_trials Q 136 [some (.ref 82), some (.int x1), some (.int x2), some (.int x3), some (.int (x4 + 1))] [] (sI h 141 x4.toNatClampNeg (h.1 83 x4.toNatClampNeg))
    refine go_goto 113 dX12_trials_136 rfl ?_
    exact vc
set_option maxRecDepth 20000 in
theorem wX12_canTrust_0 {p : Program} {l : Launch} {e : Env} {s : State} {m : MethodId} {args : Array Value} {below : List Frame} {meth : Method} {c : Code} {G : gG} {d : Nat} {Q : Option Value → gH → Prop} {h : gH} {lk sp : Nat} {cd : Option Nat} {a1 : Int32} (hR : h.2.2 = gRF lk sp cd) (hlk : lk = 30 ∨ lk = 67) (hsp : sp = 30 ∨ sp = 67)  (vc : gg p l e s m args below meth c G d MX12_canTrust Q 2 [some (.ref 82), some (.int a1), some (.int 0)] [] h) : gg p l e s m args below meth c G d MX12_canTrust Q 0 [some (.ref 82), some (.int a1), none] [] h := by
  refine go_iconst (v := 0) dX12_canTrust_0 rfl ?_
  refine go_istore_n dX12_canTrust_1 (Nat.le_of_ble_eq_true rfl) ?_
  show gg p l e s m args below meth c G d MX12_canTrust Q 2 [some (.ref 82), some (.int a1), some (.int 0)] [] h
  exact vc
set_option maxRecDepth 20000 in
theorem wX12_canTrust_2 {p : Program} {l : Launch} {e : Env} {s : State} {m : MethodId} {args : Array Value} {below : List Frame} {meth : Method} {c : Code} {G : gG} {d : Nat} {Q : Option Value → gH → Prop} {h : gH} {lk sp : Nat} {cd : Option Nat} {x1 : Int32} {x2 : Int32} (hR : h.2.2 = gRF lk sp cd) (hlk : lk = 30 ∨ lk = 67) (hsp : sp = 30 ∨ sp = 67)  (vc : (((h.1 82 76) ≤ x2 → Q (some (.int 1)) h) ∧ (¬ (h.1 82 76) ≤ x2 → (vp_in ((2 * x2)) 40 ∧ (vp_in ((h.1 141 ((2 * x2) : Int32).toNatClampNeg)) 48 ∧ ((x1 < (h.1 135 ((h.1 141 ((2 * x2) : Int32).toNatClampNeg) : Int32).toNatClampNeg) → (vp_in (((2 * x2) + 1)) 40 ∧ ((0 = (h.1 141 (((2 * x2) + 1) : Int32).toNatClampNeg) → gg p l e s m args below meth c G d MX12_canTrust Q 2 [some (.ref 82), some (.int x1), some (.int (x2 + 1))] [] h) ∧ (¬ 0 = (h.1 141 (((2 * x2) + 1) : Int32).toNatClampNeg) → Q (some (.int 0)) h)))) ∧ (¬ x1 < (h.1 135 ((h.1 141 ((2 * x2) : Int32).toNatClampNeg) : Int32).toNatClampNeg) → (vp_in (((2 * x2) + 1)) 40 ∧ ((1 = (h.1 141 (((2 * x2) + 1) : Int32).toNatClampNeg) → gg p l e s m args below meth c G d MX12_canTrust Q 2 [some (.ref 82), some (.int x1), some (.int (x2 + 1))] [] h) ∧ (¬ 1 = (h.1 141 (((2 * x2) + 1) : Int32).toNatClampNeg) → Q (some (.int 0)) h)))))))))) : gg p l e s m args below meth c G d MX12_canTrust Q 2 [some (.ref 82), some (.int x1), some (.int x2)] [] h := by
  refine go_iload_n (x := x2) dX12_canTrust_2 rfl ?_
  refine go_aload_n (x := 82) dX12_canTrust_3 rfl ?_
  refine go_getI' (v := (h.1 82 76)) dX12_canTrust_4 f12_428 sh82 (fun _ _ => rfl) rfl ?_
  refine go_icmp_ge 53 dX12_canTrust_7 rfl (fun q => ?_) (fun q => ?_)
  · replace vc := vc.1 q
    refine go_iconst (v := 1) dX12_canTrust_53 rfl ?_
    exact go_zret dX12_canTrust_54 rfl (by decide) vc rfl (Nat.le_refl _) (Nat.le_refl _)
  · replace vc := vc.2 q
    refine go_aload_n (x := 82) dX12_canTrust_10 rfl ?_
    refine go_getR (x := 135) dX12_canTrust_11 f12_172 sh82 (fun _ _ => rfl) (rf82_70 hR) ?_
    refine go_aload_n (x := 82) dX12_canTrust_14 rfl ?_
    refine go_getR (x := 141) dX12_canTrust_15 f12_190 sh82 (fun _ _ => rfl) (rf82_78 hR) ?_
    refine go_iconst (v := 2) dX12_canTrust_18 rfl ?_
    refine go_iload_n (x := x2) dX12_canTrust_19 rfl ?_
    refine go_imul dX12_canTrust_20 ?_
    refine go_iald' (v := (h.1 141 ((2 * x2) : Int32).toNatClampNeg)) dX12_canTrust_21 sh141 vc.1 rfl ?_
    have vc := vc.2
    refine go_iald' (v := (h.1 135 ((h.1 141 ((2 * x2) : Int32).toNatClampNeg) : Int32).toNatClampNeg)) dX12_canTrust_22 sh135 vc.1 rfl ?_
    have vc := vc.2
    refine go_iload_n (x := x1) dX12_canTrust_23 rfl ?_
    refine go_icmp_gt 31 dX12_canTrust_24 rfl (fun q => ?_) (fun q => ?_)
    · replace vc := vc.1 q
      refine go_iconst (v := 0) dX12_canTrust_31 rfl ?_
      refine go_aload_n (x := 82) dX12_canTrust_32 rfl ?_
      refine go_getR (x := 141) dX12_canTrust_33 f12_190 sh82 (fun _ _ => rfl) (rf82_78 hR) ?_
      refine go_iconst (v := 2) dX12_canTrust_36 rfl ?_
      refine go_iload_n (x := x2) dX12_canTrust_37 rfl ?_
      refine go_imul dX12_canTrust_38 ?_
      refine go_iconst (v := 1) dX12_canTrust_39 rfl ?_
      refine go_iadd dX12_canTrust_40 ?_
      refine go_iald' (v := (h.1 141 (((2 * x2) + 1) : Int32).toNatClampNeg)) dX12_canTrust_41 sh141 vc.1 rfl ?_
      have vc := vc.2
      refine go_icmp_eq 47 dX12_canTrust_42 rfl (fun q => ?_) (fun q => ?_)
      · replace vc := vc.1 q
        refine go_iinc (x := x2) dX12_canTrust_47 rfl ?_
        show gg p l e s m args below meth c G d MX12_canTrust Q 50 [some (.ref 82), some (.int x1), some (.int (x2 + 1))] [] h
        refine go_goto 2 dX12_canTrust_50 rfl ?_
        exact vc
      · replace vc := vc.2 q
        refine go_iconst (v := 0) dX12_canTrust_45 rfl ?_
        exact go_zret dX12_canTrust_46 rfl (by decide) vc rfl (Nat.le_refl _) (Nat.le_refl _)
    · replace vc := vc.2 q
      refine go_iconst (v := 1) dX12_canTrust_27 rfl ?_
      refine go_goto 32 dX12_canTrust_28 rfl ?_
      refine go_aload_n (x := 82) dX12_canTrust_32 rfl ?_
      refine go_getR (x := 141) dX12_canTrust_33 f12_190 sh82 (fun _ _ => rfl) (rf82_78 hR) ?_
      refine go_iconst (v := 2) dX12_canTrust_36 rfl ?_
      refine go_iload_n (x := x2) dX12_canTrust_37 rfl ?_
      refine go_imul dX12_canTrust_38 ?_
      refine go_iconst (v := 1) dX12_canTrust_39 rfl ?_
      refine go_iadd dX12_canTrust_40 ?_
      refine go_iald' (v := (h.1 141 (((2 * x2) + 1) : Int32).toNatClampNeg)) dX12_canTrust_41 sh141 vc.1 rfl ?_
      have vc := vc.2
      refine go_icmp_eq 47 dX12_canTrust_42 rfl (fun q => ?_) (fun q => ?_)
      · replace vc := vc.1 q
        refine go_iinc (x := x2) dX12_canTrust_47 rfl ?_
        show gg p l e s m args below meth c G d MX12_canTrust Q 50 [some (.ref 82), some (.int x1), some (.int (x2 + 1))] [] h
        refine go_goto 2 dX12_canTrust_50 rfl ?_
        exact vc
      · replace vc := vc.2 q
        refine go_iconst (v := 0) dX12_canTrust_45 rfl ?_
        exact go_zret dX12_canTrust_46 rfl (by decide) vc rfl (Nat.le_refl _) (Nat.le_refl _)
set_option maxRecDepth 20000 in
theorem wX12_trusts_0 {p : Program} {l : Launch} {e : Env} {s : State} {m : MethodId} {args : Array Value} {below : List Frame} {meth : Method} {c : Code} {G : gG} {d : Nat} {Q : Option Value → gH → Prop} {h : gH} {lk sp : Nat} {cd : Option Nat} {a1 : Int32} (hR : h.2.2 = gRF lk sp cd) (hlk : lk = 30 ∨ lk = 67) (hsp : sp = 30 ∨ sp = 67)  (vc : (((h.1 82 76) = 0 → Q (some (.int (-1))) h) ∧ (¬ (h.1 82 76) = 0 → gC l G d MX12_isIn [.long (a1 : Int32).toInt64, .long 0, .long 2] h (rI fun v1 h1 => h1.2.2 = (h).2.2 ∧ ((¬ v1 = 0 → gC l G d MX12_laysFears [.ref 82, .int (h1.1 82 77)] h1 (rV fun h2 => h2.2.2 = (h1).2.2 ∧ gg p l e s m args below meth c G (d + 1) MX12_trusts Q 39 [some (.ref 82), some (.int a1), some (.int 0), some (.int (-1)), some (.int (-1)), some (.int 0)] [] h2)) ∧ (v1 = 0 → Q (some (.int (-1))) h1)))))) : gg p l e s m args below meth c G (d + 1) MX12_trusts Q 0 [some (.ref 82), some (.int a1), none, none, none, none] [] h := by
  refine go_aload_n (x := 82) dX12_trusts_0 rfl ?_
  refine go_getI' (v := (h.1 82 76)) dX12_trusts_1 f12_428 sh82 (fun _ _ => rfl) rfl ?_
  refine go_if_eq 19 dX12_trusts_4 rfl (fun q => ?_) (fun q => ?_)
  · replace vc := vc.1 q
    refine go_iconst (v := (-1)) dX12_trusts_19 rfl ?_
    exact go_iret dX12_trusts_20 rfl vc rfl (Nat.le_refl _) (Nat.le_refl _)
  · replace vc := vc.2 q
    refine go_iload_n (x := a1) dX12_trusts_7 rfl ?_
    refine go_i2l dX12_trusts_8 ?_
    refine go_lconst (v := 0) dX12_trusts_9 rfl ?_
    refine go_ldc2 (v := 2) dX12_trusts_10 nX12_648 ?_
    refine gsI3 MX12_isIn dX12_trusts_13 lX12_321 kX12_isIn sX12_isIn (Nat.le_of_ble_eq_true rfl) vc ?_
    intro v1 h1 vc
    obtain ⟨hR1, vc⟩ := vc
    replace hR := hR1.trans hR
    refine go_if_ne 21 dX12_trusts_16 rfl (fun q => ?_) (fun q => ?_)
    · replace vc := vc.1 q
      refine go_aload_n (x := 82) dX12_trusts_21 rfl ?_
      refine go_aload_n (x := 82) dX12_trusts_22 rfl ?_
      refine go_getI' (v := (h1.1 82 77)) dX12_trusts_23 f12_645 sh82 (fun _ _ => rfl) rfl ?_
      refine gvV1 MX12_laysFears dX12_trusts_26 lX12_590 kX12_laysFears vX12_laysFears sh82 (by decide) rfl (Nat.le_of_ble_eq_true rfl) vc ?_
      intro h2 vc
      obtain ⟨hR2, vc⟩ := vc
      replace hR := hR2.trans hR
      refine go_iconst (v := 0) dX12_trusts_29 rfl ?_
      refine go_istore_n dX12_trusts_30 (Nat.le_of_ble_eq_true rfl) ?_
      show gg p l e s m args below meth c G (d + 1) MX12_trusts Q 31 [some (.ref 82), some (.int a1), some (.int 0), none, none, none] [] h2
      refine go_iconst (v := (-1)) dX12_trusts_31 rfl ?_
      refine go_istore_n dX12_trusts_32 (Nat.le_of_ble_eq_true rfl) ?_
      show gg p l e s m args below meth c G (d + 1) MX12_trusts Q 33 [some (.ref 82), some (.int a1), some (.int 0), some (.int (-1)), none, none] [] h2
      refine go_iconst (v := (-1)) dX12_trusts_33 rfl ?_
      refine go_istore dX12_trusts_34 (Nat.le_of_ble_eq_true rfl) ?_
      show gg p l e s m args below meth c G (d + 1) MX12_trusts Q 36 [some (.ref 82), some (.int a1), some (.int 0), some (.int (-1)), some (.int (-1)), none] [] h2
      refine go_iconst (v := 0) dX12_trusts_36 rfl ?_
      refine go_istore dX12_trusts_37 (Nat.le_of_ble_eq_true rfl) ?_
      show gg p l e s m args below meth c G (d + 1) MX12_trusts Q 39 [some (.ref 82), some (.int a1), some (.int 0), some (.int (-1)), some (.int (-1)), some (.int 0)] [] h2
      exact vc
    · replace vc := vc.2 q
      refine go_iconst (v := (-1)) dX12_trusts_19 rfl ?_
      exact go_iret dX12_trusts_20 rfl vc rfl (Nat.le_refl _) (Nat.le_refl _)
set_option maxRecDepth 20000 in
theorem wX12_trusts_39 {p : Program} {l : Launch} {e : Env} {s : State} {m : MethodId} {args : Array Value} {below : List Frame} {meth : Method} {c : Code} {G : gG} {d : Nat} {Q : Option Value → gH → Prop} {h : gH} {lk sp : Nat} {cd : Option Nat} {x1 : Int32} {x2 : Int32} {x3 : Int32} {x4 : Int32} {x5 : Int32} (hR : h.2.2 = gRF lk sp cd) (hlk : lk = 30 ∨ lk = 67) (hsp : sp = 30 ∨ sp = 67)  (vc : ((99 < x5 → ((¬ x1 = 0 → ((¬ x1 = 1 → Q (some (.int x4)) h) ∧ (x1 = 1 → Q (some (.int x3)) h))) ∧ (x1 = 0 → Q (some (.int x2)) h))) ∧ (¬ 99 < x5 → gC l G d MX12_canTrust [.ref 82, .int x5] h (rI fun v1 h1 => h1.2.2 = (h).2.2 ∧ ((¬ v1 = 0 → ((¬ x3 = (-1) → gg p l e s m args below meth c G (d + 1) MX12_trusts Q 39 [some (.ref 82), some (.int x1), some (.int (x2 + 1)), some (.int x3), some (.int x5), some (.int (x5 + 1))] [] h1) ∧ (x3 = (-1) → gg p l e s m args below meth c G (d + 1) MX12_trusts Q 39 [some (.ref 82), some (.int x1), some (.int (x2 + 1)), some (.int x5), some (.int x5), some (.int (x5 + 1))] [] h1))) ∧ (v1 = 0 → gg p l e s m args below meth c G (d + 1) MX12_trusts Q 39 [some (.ref 82), some (.int x1), some (.int x2), some (.int x3), some (.int x4), some (.int (x5 + 1))] [] h1)))))) : gg p l e s m args below meth c G (d + 1) MX12_trusts Q 39 [some (.ref 82), some (.int x1), some (.int x2), some (.int x3), some (.int x4), some (.int x5)] [] h := by
  refine go_iload (x := x5) dX12_trusts_39 rfl ?_
  refine go_bipush (v := 99) dX12_trusts_41 rfl ?_
  refine go_icmp_gt 79 dX12_trusts_43 rfl (fun q => ?_) (fun q => ?_)
  · replace vc := vc.1 q
    refine go_iload_n (x := x1) dX12_trusts_79 rfl ?_
    refine go_if_ne 87 dX12_trusts_80 rfl (fun q => ?_) (fun q => ?_)
    · replace vc := vc.1 q
      refine go_iload_n (x := x1) dX12_trusts_87 rfl ?_
      refine go_iconst (v := 1) dX12_trusts_88 rfl ?_
      refine go_icmp_ne 96 dX12_trusts_89 rfl (fun q => ?_) (fun q => ?_)
      · replace vc := vc.1 q
        refine go_iload (x := x4) dX12_trusts_96 rfl ?_
        exact go_iret dX12_trusts_98 rfl vc rfl (Nat.le_refl _) (Nat.le_refl _)
      · replace vc := vc.2 q
        refine go_iload_n (x := x3) dX12_trusts_92 rfl ?_
        refine go_goto 98 dX12_trusts_93 rfl ?_
        exact go_iret dX12_trusts_98 rfl vc rfl (Nat.le_refl _) (Nat.le_refl _)
    · replace vc := vc.2 q
      refine go_iload_n (x := x2) dX12_trusts_83 rfl ?_
      refine go_goto 98 dX12_trusts_84 rfl ?_
      exact go_iret dX12_trusts_98 rfl vc rfl (Nat.le_refl _) (Nat.le_refl _)
  · replace vc := vc.2 q
    refine go_aload_n (x := 82) dX12_trusts_46 rfl ?_
    refine go_iload (x := x5) dX12_trusts_47 rfl ?_
    refine gvI1 MX12_canTrust dX12_trusts_49 lX12_650 kX12_canTrust vX12_canTrust sh82 (by decide) rfl (Nat.le_of_ble_eq_true rfl) vc ?_
    intro v1 h1 vc
    obtain ⟨hR1, vc⟩ := vc
    replace hR := hR1.trans hR
    refine go_if_ne 58 dX12_trusts_52 rfl (fun q => ?_) (fun q => ?_)
    · replace vc := vc.1 q
      refine go_iinc (x := x2) dX12_trusts_58 rfl ?_
      show gg p l e s m args below meth c G (d + 1) MX12_trusts Q 61 [some (.ref 82), some (.int x1), some (.int (x2 + 1)), some (.int x3), some (.int x4), some (.int x5)] [] h1
      refine go_iload_n (x := x3) dX12_trusts_61 rfl ?_
      refine go_iconst (v := (-1)) dX12_trusts_62 rfl ?_
      refine go_icmp_ne 69 dX12_trusts_63 rfl (fun q => ?_) (fun q => ?_)
      · replace vc := vc.1 q
        refine go_iload (x := x5) dX12_trusts_69 rfl ?_
        refine go_istore dX12_trusts_71 (Nat.le_of_ble_eq_true rfl) ?_
        show gg p l e s m args below meth c G (d + 1) MX12_trusts Q 73 [some (.ref 82), some (.int x1), some (.int (x2 + 1)), some (.int x3), some (.int x5), some (.int x5)] [] h1
        refine go_iinc (x := x5) dX12_trusts_73 rfl ?_
        show gg p l e s m args below meth c G (d + 1) MX12_trusts Q 76 [some (.ref 82), some (.int x1), some (.int (x2 + 1)), some (.int x3), some (.int x5), some (.int (x5 + 1))] [] h1
        refine go_goto 39 dX12_trusts_76 rfl ?_
        exact vc
      · replace vc := vc.2 q
        refine go_iload (x := x5) dX12_trusts_66 rfl ?_
        refine go_istore_n dX12_trusts_68 (Nat.le_of_ble_eq_true rfl) ?_
        show gg p l e s m args below meth c G (d + 1) MX12_trusts Q 69 [some (.ref 82), some (.int x1), some (.int (x2 + 1)), some (.int x5), some (.int x4), some (.int x5)] [] h1
        refine go_iload (x := x5) dX12_trusts_69 rfl ?_
        refine go_istore dX12_trusts_71 (Nat.le_of_ble_eq_true rfl) ?_
        show gg p l e s m args below meth c G (d + 1) MX12_trusts Q 73 [some (.ref 82), some (.int x1), some (.int (x2 + 1)), some (.int x5), some (.int x5), some (.int x5)] [] h1
        refine go_iinc (x := x5) dX12_trusts_73 rfl ?_
        show gg p l e s m args below meth c G (d + 1) MX12_trusts Q 76 [some (.ref 82), some (.int x1), some (.int (x2 + 1)), some (.int x5), some (.int x5), some (.int (x5 + 1))] [] h1
        refine go_goto 39 dX12_trusts_76 rfl ?_
        exact vc
    · replace vc := vc.2 q
      refine go_goto 73 dX12_trusts_55 rfl ?_
      refine go_iinc (x := x5) dX12_trusts_73 rfl ?_
      show gg p l e s m args below meth c G (d + 1) MX12_trusts Q 76 [some (.ref 82), some (.int x1), some (.int x2), some (.int x3), some (.int x4), some (.int (x5 + 1))] [] h1
      refine go_goto 39 dX12_trusts_76 rfl ?_
      exact vc
set_option maxRecDepth 20000 in
theorem wX12_next_0 {p : Program} {l : Launch} {e : Env} {s : State} {m : MethodId} {args : Array Value} {below : List Frame} {meth : Method} {c : Code} {G : gG} {d : Nat} {Q : Option Value → gH → Prop} {h : gH} {lk sp : Nat} {cd : Option Nat} {a1 : Int32} (hR : h.2.2 = gRF lk sp cd) (hlk : lk = 30 ∨ lk = 67) (hsp : sp = 30 ∨ sp = 67)  (vc : (((h.1 82 76) = 0 → Q (some (.int (-1))) h) ∧ (¬ (h.1 82 76) = 0 → gC l G d MX12_isIn [.long (a1 : Int32).toInt64, .long 0, .long 1] h (rI fun v1 h1 => h1.2.2 = (h).2.2 ∧ ((¬ v1 = 0 → gC l G d MX12_laysFears [.ref 82, .int (h1.1 82 77)] h1 (rV fun h2 => h2.2.2 = (h1).2.2 ∧ gg p l e s m args below meth c G (d + 1) MX12_next Q 34 [some (.ref 82), some (.int a1), some (.int (-1)), some (.int (-1)), some (.int 0), none, none, none] [] h2)) ∧ (v1 = 0 → Q (some (.int (-1))) h1)))))) : gg p l e s m args below meth c G (d + 1) MX12_next Q 0 [some (.ref 82), some (.int a1), none, none, none, none, none, none] [] h := by
  refine go_aload_n (x := 82) dX12_next_0 rfl ?_
  refine go_getI' (v := (h.1 82 76)) dX12_next_1 f12_428 sh82 (fun _ _ => rfl) rfl ?_
  refine go_if_eq 17 dX12_next_4 rfl (fun q => ?_) (fun q => ?_)
  · replace vc := vc.1 q
    refine go_iconst (v := (-1)) dX12_next_17 rfl ?_
    exact go_iret dX12_next_18 rfl vc rfl (Nat.le_refl _) (Nat.le_refl _)
  · replace vc := vc.2 q
    refine go_iload_n (x := a1) dX12_next_7 rfl ?_
    refine go_i2l dX12_next_8 ?_
    refine go_lconst (v := 0) dX12_next_9 rfl ?_
    refine go_lconst (v := 1) dX12_next_10 rfl ?_
    refine gsI3 MX12_isIn dX12_next_11 lX12_321 kX12_isIn sX12_isIn (Nat.le_of_ble_eq_true rfl) vc ?_
    intro v1 h1 vc
    obtain ⟨hR1, vc⟩ := vc
    replace hR := hR1.trans hR
    refine go_if_ne 19 dX12_next_14 rfl (fun q => ?_) (fun q => ?_)
    · replace vc := vc.1 q
      refine go_aload_n (x := 82) dX12_next_19 rfl ?_
      refine go_aload_n (x := 82) dX12_next_20 rfl ?_
      refine go_getI' (v := (h1.1 82 77)) dX12_next_21 f12_645 sh82 (fun _ _ => rfl) rfl ?_
      refine gvV1 MX12_laysFears dX12_next_24 lX12_590 kX12_laysFears vX12_laysFears sh82 (by decide) rfl (Nat.le_of_ble_eq_true rfl) vc ?_
      intro h2 vc
      obtain ⟨hR2, vc⟩ := vc
      replace hR := hR2.trans hR
      refine go_iconst (v := (-1)) dX12_next_27 rfl ?_
      refine go_istore_n dX12_next_28 (Nat.le_of_ble_eq_true rfl) ?_
      show gg p l e s m args below meth c G (d + 1) MX12_next Q 29 [some (.ref 82), some (.int a1), some (.int (-1)), none, none, none, none, none] [] h2
      refine go_iconst (v := (-1)) dX12_next_29 rfl ?_
      refine go_istore_n dX12_next_30 (Nat.le_of_ble_eq_true rfl) ?_
      show gg p l e s m args below meth c G (d + 1) MX12_next Q 31 [some (.ref 82), some (.int a1), some (.int (-1)), some (.int (-1)), none, none, none, none] [] h2
      refine go_iconst (v := 0) dX12_next_31 rfl ?_
      refine go_istore dX12_next_32 (Nat.le_of_ble_eq_true rfl) ?_
      show gg p l e s m args below meth c G (d + 1) MX12_next Q 34 [some (.ref 82), some (.int a1), some (.int (-1)), some (.int (-1)), some (.int 0), none, none, none] [] h2
      exact vc
    · replace vc := vc.2 q
      refine go_iconst (v := (-1)) dX12_next_17 rfl ?_
      exact go_iret dX12_next_18 rfl vc rfl (Nat.le_refl _) (Nat.le_refl _)
set_option maxRecDepth 20000 in
theorem wX12_next_34 {p : Program} {l : Launch} {e : Env} {s : State} {m : MethodId} {args : Array Value} {below : List Frame} {meth : Method} {c : Code} {G : gG} {d : Nat} {Q : Option Value → gH → Prop} {h : gH} {lk sp : Nat} {cd : Option Nat} {x1 : Int32} {x2 : Int32} {x3 : Int32} {x4 : Int32} (hR : h.2.2 = gRF lk sp cd) (hlk : lk = 30 ∨ lk = 67) (hsp : sp = 30 ∨ sp = 67)  (vc : gC l G d MX12_cellMany [.ref 82] h (rI fun v1 h1 => h1.2.2 = (h).2.2 ∧ ((v1 ≤ x4 → ((¬ x1 = 0 → Q (some (.int x3)) h1) ∧ (x1 = 0 → Q (some (.int x2)) h1))) ∧ (¬ v1 ≤ x4 → gg p l e s m args below meth c G (d + 1) MX12_next Q 52 [some (.ref 82), some (.int x1), some (.int x2), some (.int x3), some (.int x4), some (.int 0), some (.int 0), some (.int 0)] [] h1)))) : gg p l e s m args below meth c G (d + 1) MX12_next Q 34 [some (.ref 82), some (.int x1), some (.int x2), some (.int x3), some (.int x4), none, none, none] [] h := by
  refine go_iload (x := x4) dX12_next_34 rfl ?_
  refine go_aload_n (x := 82) dX12_next_36 rfl ?_
  refine gvI0 MX12_cellMany dX12_next_37 lX12_480 kX12_cellMany vX12_cellMany sh82 (by decide) rfl (Nat.le_of_ble_eq_true rfl) vc ?_
  intro v1 h1 vc
  obtain ⟨hR1, vc⟩ := vc
  replace hR := hR1.trans hR
  refine go_icmp_ge 151 dX12_next_40 rfl (fun q => ?_) (fun q => ?_)
  · replace vc := vc.1 q
    refine go_iload_n (x := x1) dX12_next_151 rfl ?_
    refine go_if_ne 159 dX12_next_152 rfl (fun q => ?_) (fun q => ?_)
    · replace vc := vc.1 q
      refine go_iload_n (x := x3) dX12_next_159 rfl ?_
      exact go_iret dX12_next_160 rfl vc rfl (Nat.le_refl _) (Nat.le_refl _)
    · replace vc := vc.2 q
      refine go_iload_n (x := x2) dX12_next_155 rfl ?_
      refine go_goto 160 dX12_next_156 rfl ?_
      exact go_iret dX12_next_160 rfl vc rfl (Nat.le_refl _) (Nat.le_refl _)
  · replace vc := vc.2 q
    refine go_iconst (v := 0) dX12_next_43 rfl ?_
    refine go_istore dX12_next_44 (Nat.le_of_ble_eq_true rfl) ?_
    show gg p l e s m args below meth c G (d + 1) MX12_next Q 46 [some (.ref 82), some (.int x1), some (.int x2), some (.int x3), some (.int x4), some (.int 0), none, none] [] h1
    refine go_iconst (v := 0) dX12_next_46 rfl ?_
    refine go_istore dX12_next_47 (Nat.le_of_ble_eq_true rfl) ?_
    show gg p l e s m args below meth c G (d + 1) MX12_next Q 49 [some (.ref 82), some (.int x1), some (.int x2), some (.int x3), some (.int x4), some (.int 0), some (.int 0), none] [] h1
    refine go_iconst (v := 0) dX12_next_49 rfl ?_
    refine go_istore dX12_next_50 (Nat.le_of_ble_eq_true rfl) ?_
    show gg p l e s m args below meth c G (d + 1) MX12_next Q 52 [some (.ref 82), some (.int x1), some (.int x2), some (.int x3), some (.int x4), some (.int 0), some (.int 0), some (.int 0)] [] h1
    exact vc
set_option maxRecDepth 20000 in
theorem wX12_next_52 {p : Program} {l : Launch} {e : Env} {s : State} {m : MethodId} {args : Array Value} {below : List Frame} {meth : Method} {c : Code} {G : gG} {d : Nat} {Q : Option Value → gH → Prop} {h : gH} {lk sp : Nat} {cd : Option Nat} {x1 : Int32} {x2 : Int32} {x3 : Int32} {x4 : Int32} {x5 : Int32} {x6 : Int32} {x7 : Int32} (hR : h.2.2 = gRF lk sp cd) (hlk : lk = 30 ∨ lk = 67) (hsp : sp = 30 ∨ sp = 67)  (vc : ((99 < x7 → (((x5 + x6) = 0 → gg p l e s m args below meth c G (d + 1) MX12_next Q 34 [some (.ref 82), some (.int x1), some (.int x2), some (.int x3), some (.int (x4 + 1)), none, none, none] [] h) ∧ (¬ (x5 + x6) = 0 → ((x3 = (-1) → gC l G d MX12_greater [.int x5, .int x6] h (rI fun v1 h1 => h1.2.2 = (h).2.2 ∧ gg p l e s m args below meth c G (d + 1) MX12_next Q 34 [some (.ref 82), some (.int x1), some (.int x4), some (.int v1), some (.int (x4 + 1)), none, none, none] [] h1)) ∧ (¬ x3 = (-1) → gC l G d MX12_greater [.int x5, .int x6] h (rI fun v2 h2 => h2.2.2 = (h).2.2 ∧ ((v2 < x3 → gC l G d MX12_greater [.int x5, .int x6] h2 (rI fun v3 h3 => h3.2.2 = (h2).2.2 ∧ gg p l e s m args below meth c G (d + 1) MX12_next Q 34 [some (.ref 82), some (.int x1), some (.int x4), some (.int v3), some (.int (x4 + 1)), none, none, none] [] h3)) ∧ (¬ v2 < x3 → gg p l e s m args below meth c G (d + 1) MX12_next Q 34 [some (.ref 82), some (.int x1), some (.int x2), some (.int x3), some (.int (x4 + 1)), none, none, none] [] h2)))))))) ∧ (¬ 99 < x7 → gC l G d MX12_isLand [.ref 82, .int x4] h (rI fun v4 h4 => h4.2.2 = (h).2.2 ∧ ((¬ v4 = 0 → (((x5 + x6) = 0 → gg p l e s m args below meth c G (d + 1) MX12_next Q 34 [some (.ref 82), some (.int x1), some (.int x2), some (.int x3), some (.int (x4 + 1)), none, none, none] [] h4) ∧ (¬ (x5 + x6) = 0 → ((x3 = (-1) → gC l G d MX12_greater [.int x5, .int x6] h4 (rI fun v5 h5 => h5.2.2 = (h4).2.2 ∧ gg p l e s m args below meth c G (d + 1) MX12_next Q 34 [some (.ref 82), some (.int x1), some (.int x4), some (.int v5), some (.int (x4 + 1)), none, none, none] [] h5)) ∧ (¬ x3 = (-1) → gC l G d MX12_greater [.int x5, .int x6] h4 (rI fun v6 h6 => h6.2.2 = (h4).2.2 ∧ ((v6 < x3 → gC l G d MX12_greater [.int x5, .int x6] h6 (rI fun v7 h7 => h7.2.2 = (h6).2.2 ∧ gg p l e s m args below meth c G (d + 1) MX12_next Q 34 [some (.ref 82), some (.int x1), some (.int x4), some (.int v7), some (.int (x4 + 1)), none, none, none] [] h7)) ∧ (¬ v6 < x3 → gg p l e s m args below meth c G (d + 1) MX12_next Q 34 [some (.ref 82), some (.int x1), some (.int x2), some (.int x3), some (.int (x4 + 1)), none, none, none] [] h6)))))))) ∧ (v4 = 0 → gC l G d MX12_canTrust [.ref 82, .int x7] h4 (rI fun v8 h8 => h8.2.2 = (h4).2.2 ∧ ((¬ v8 = 0 → (vp_in x4 48 ∧ ((x7 < (h8.1 135 x4.toNatClampNeg) → gg p l e s m args below meth c G (d + 1) MX12_next Q 52 [some (.ref 82), some (.int x1), some (.int x2), some (.int x3), some (.int x4), some (.int x5), some (.int (x6 + 1)), some (.int (x7 + 1))] [] h8) ∧ (¬ x7 < (h8.1 135 x4.toNatClampNeg) → gg p l e s m args below meth c G (d + 1) MX12_next Q 52 [some (.ref 82), some (.int x1), some (.int x2), some (.int x3), some (.int x4), some (.int (x5 + 1)), some (.int x6), some (.int (x7 + 1))] [] h8)))) ∧ (v8 = 0 → gg p l e s m args below meth c G (d + 1) MX12_next Q 52 [some (.ref 82), some (.int x1), some (.int x2), some (.int x3), some (.int x4), some (.int x5), some (.int x6), some (.int (x7 + 1))] [] h8))))))))) : gg p l e s m args below meth c G (d + 1) MX12_next Q 52 [some (.ref 82), some (.int x1), some (.int x2), some (.int x3), some (.int x4), some (.int x5), some (.int x6), some (.int x7)] [] h := by
  refine go_iload (x := x7) dX12_next_52 rfl ?_
  refine go_bipush (v := 99) dX12_next_54 rfl ?_
  refine go_icmp_gt 107 dX12_next_56 rfl (fun q => ?_) (fun q => ?_)
  · replace vc := vc.1 q
    refine go_iload (x := x5) dX12_next_107 rfl ?_
    refine go_iload (x := x6) dX12_next_109 rfl ?_
    refine go_iadd dX12_next_111 ?_
    refine go_if_eq 145 dX12_next_112 rfl (fun q => ?_) (fun q => ?_)
    · replace vc := vc.1 q
      refine go_iinc (x := x4) dX12_next_145 rfl ?_
      show gg p l e s m args below meth c G (d + 1) MX12_next Q 148 [some (.ref 82), some (.int x1), some (.int x2), some (.int x3), some (.int (x4 + 1)), some (.int x5), some (.int x6), some (.int x7)] [] h
      refine go_goto 34 dX12_next_148 rfl ?_
      refine go_weak (ls' := [some (.ref 82), some (.int x1), some (.int x2), some (.int x3), some (.int (x4 + 1)), none, none, none]) ?_ vc
      exact (⟨rfl, ⟨rfl, ⟨rfl, ⟨rfl, ⟨rfl, trivial⟩⟩⟩⟩⟩)
    · replace vc := vc.2 q
      refine go_iload_n (x := x3) dX12_next_115 rfl ?_
      refine go_iconst (v := (-1)) dX12_next_116 rfl ?_
      refine go_icmp_eq 134 dX12_next_117 rfl (fun q => ?_) (fun q => ?_)
      · replace vc := vc.1 q
        refine go_iload (x := x5) dX12_next_134 rfl ?_
        refine go_iload (x := x6) dX12_next_136 rfl ?_
        refine gsI2 MX12_greater dX12_next_138 lX12_599 kX12_greater sX12_greater (Nat.le_of_ble_eq_true rfl) vc ?_
        intro v1 h1 vc
        obtain ⟨hR1, vc⟩ := vc
        replace hR := hR1.trans hR
        refine go_istore_n dX12_next_141 (Nat.le_of_ble_eq_true rfl) ?_
        show gg p l e s m args below meth c G (d + 1) MX12_next Q 142 [some (.ref 82), some (.int x1), some (.int x2), some (.int v1), some (.int x4), some (.int x5), some (.int x6), some (.int x7)] [] h1
        refine go_iload (x := x4) dX12_next_142 rfl ?_
        refine go_istore_n dX12_next_144 (Nat.le_of_ble_eq_true rfl) ?_
        show gg p l e s m args below meth c G (d + 1) MX12_next Q 145 [some (.ref 82), some (.int x1), some (.int x4), some (.int v1), some (.int x4), some (.int x5), some (.int x6), some (.int x7)] [] h1
        refine go_iinc (x := x4) dX12_next_145 rfl ?_
        show gg p l e s m args below meth c G (d + 1) MX12_next Q 148 [some (.ref 82), some (.int x1), some (.int x4), some (.int v1), some (.int (x4 + 1)), some (.int x5), some (.int x6), some (.int x7)] [] h1
        refine go_goto 34 dX12_next_148 rfl ?_
        refine go_weak (ls' := [some (.ref 82), some (.int x1), some (.int x4), some (.int v1), some (.int (x4 + 1)), none, none, none]) ?_ vc
        exact (⟨rfl, ⟨rfl, ⟨rfl, ⟨rfl, ⟨rfl, trivial⟩⟩⟩⟩⟩)
      · replace vc := vc.2 q
        refine go_iload (x := x5) dX12_next_120 rfl ?_
        refine go_iload (x := x6) dX12_next_122 rfl ?_
        refine gsI2 MX12_greater dX12_next_124 lX12_599 kX12_greater sX12_greater (Nat.le_of_ble_eq_true rfl) vc ?_
        intro v2 h2 vc
        obtain ⟨hR2, vc⟩ := vc
        replace hR := hR2.trans hR
        refine go_iload_n (x := x3) dX12_next_127 rfl ?_
        refine go_icmp_lt 134 dX12_next_128 rfl (fun q => ?_) (fun q => ?_)
        · replace vc := vc.1 q
          refine go_iload (x := x5) dX12_next_134 rfl ?_
          refine go_iload (x := x6) dX12_next_136 rfl ?_
          refine gsI2 MX12_greater dX12_next_138 lX12_599 kX12_greater sX12_greater (Nat.le_of_ble_eq_true rfl) vc ?_
          intro v3 h3 vc
          obtain ⟨hR3, vc⟩ := vc
          replace hR := hR3.trans hR
          refine go_istore_n dX12_next_141 (Nat.le_of_ble_eq_true rfl) ?_
          show gg p l e s m args below meth c G (d + 1) MX12_next Q 142 [some (.ref 82), some (.int x1), some (.int x2), some (.int v3), some (.int x4), some (.int x5), some (.int x6), some (.int x7)] [] h3
          refine go_iload (x := x4) dX12_next_142 rfl ?_
          refine go_istore_n dX12_next_144 (Nat.le_of_ble_eq_true rfl) ?_
          show gg p l e s m args below meth c G (d + 1) MX12_next Q 145 [some (.ref 82), some (.int x1), some (.int x4), some (.int v3), some (.int x4), some (.int x5), some (.int x6), some (.int x7)] [] h3
          refine go_iinc (x := x4) dX12_next_145 rfl ?_
          show gg p l e s m args below meth c G (d + 1) MX12_next Q 148 [some (.ref 82), some (.int x1), some (.int x4), some (.int v3), some (.int (x4 + 1)), some (.int x5), some (.int x6), some (.int x7)] [] h3
          refine go_goto 34 dX12_next_148 rfl ?_
          refine go_weak (ls' := [some (.ref 82), some (.int x1), some (.int x4), some (.int v3), some (.int (x4 + 1)), none, none, none]) ?_ vc
          exact (⟨rfl, ⟨rfl, ⟨rfl, ⟨rfl, ⟨rfl, trivial⟩⟩⟩⟩⟩)
        · replace vc := vc.2 q
          refine go_goto 145 dX12_next_131 rfl ?_
          refine go_iinc (x := x4) dX12_next_145 rfl ?_
          show gg p l e s m args below meth c G (d + 1) MX12_next Q 148 [some (.ref 82), some (.int x1), some (.int x2), some (.int x3), some (.int (x4 + 1)), some (.int x5), some (.int x6), some (.int x7)] [] h2
          refine go_goto 34 dX12_next_148 rfl ?_
          refine go_weak (ls' := [some (.ref 82), some (.int x1), some (.int x2), some (.int x3), some (.int (x4 + 1)), none, none, none]) ?_ vc
          exact (⟨rfl, ⟨rfl, ⟨rfl, ⟨rfl, ⟨rfl, trivial⟩⟩⟩⟩⟩)
  · replace vc := vc.2 q
    refine go_aload_n (x := 82) dX12_next_59 rfl ?_
    refine go_iload (x := x4) dX12_next_60 rfl ?_
    refine gvI1 MX12_isLand dX12_next_62 lX12_492 kX12_isLand vX12_isLand sh82 (by decide) rfl (Nat.le_of_ble_eq_true rfl) vc ?_
    intro v4 h4 vc
    obtain ⟨hR4, vc⟩ := vc
    replace hR := hR4.trans hR
    refine go_if_ne 107 dX12_next_65 rfl (fun q => ?_) (fun q => ?_)
    · replace vc := vc.1 q
      refine go_iload (x := x5) dX12_next_107 rfl ?_
      refine go_iload (x := x6) dX12_next_109 rfl ?_
      refine go_iadd dX12_next_111 ?_
      refine go_if_eq 145 dX12_next_112 rfl (fun q => ?_) (fun q => ?_)
      · replace vc := vc.1 q
        refine go_iinc (x := x4) dX12_next_145 rfl ?_
        show gg p l e s m args below meth c G (d + 1) MX12_next Q 148 [some (.ref 82), some (.int x1), some (.int x2), some (.int x3), some (.int (x4 + 1)), some (.int x5), some (.int x6), some (.int x7)] [] h4
        refine go_goto 34 dX12_next_148 rfl ?_
        refine go_weak (ls' := [some (.ref 82), some (.int x1), some (.int x2), some (.int x3), some (.int (x4 + 1)), none, none, none]) ?_ vc
        exact (⟨rfl, ⟨rfl, ⟨rfl, ⟨rfl, ⟨rfl, trivial⟩⟩⟩⟩⟩)
      · replace vc := vc.2 q
        refine go_iload_n (x := x3) dX12_next_115 rfl ?_
        refine go_iconst (v := (-1)) dX12_next_116 rfl ?_
        refine go_icmp_eq 134 dX12_next_117 rfl (fun q => ?_) (fun q => ?_)
        · replace vc := vc.1 q
          refine go_iload (x := x5) dX12_next_134 rfl ?_
          refine go_iload (x := x6) dX12_next_136 rfl ?_
          refine gsI2 MX12_greater dX12_next_138 lX12_599 kX12_greater sX12_greater (Nat.le_of_ble_eq_true rfl) vc ?_
          intro v5 h5 vc
          obtain ⟨hR5, vc⟩ := vc
          replace hR := hR5.trans hR
          refine go_istore_n dX12_next_141 (Nat.le_of_ble_eq_true rfl) ?_
          show gg p l e s m args below meth c G (d + 1) MX12_next Q 142 [some (.ref 82), some (.int x1), some (.int x2), some (.int v5), some (.int x4), some (.int x5), some (.int x6), some (.int x7)] [] h5
          refine go_iload (x := x4) dX12_next_142 rfl ?_
          refine go_istore_n dX12_next_144 (Nat.le_of_ble_eq_true rfl) ?_
          show gg p l e s m args below meth c G (d + 1) MX12_next Q 145 [some (.ref 82), some (.int x1), some (.int x4), some (.int v5), some (.int x4), some (.int x5), some (.int x6), some (.int x7)] [] h5
          refine go_iinc (x := x4) dX12_next_145 rfl ?_
          show gg p l e s m args below meth c G (d + 1) MX12_next Q 148 [some (.ref 82), some (.int x1), some (.int x4), some (.int v5), some (.int (x4 + 1)), some (.int x5), some (.int x6), some (.int x7)] [] h5
          refine go_goto 34 dX12_next_148 rfl ?_
          refine go_weak (ls' := [some (.ref 82), some (.int x1), some (.int x4), some (.int v5), some (.int (x4 + 1)), none, none, none]) ?_ vc
          exact (⟨rfl, ⟨rfl, ⟨rfl, ⟨rfl, ⟨rfl, trivial⟩⟩⟩⟩⟩)
        · replace vc := vc.2 q
          refine go_iload (x := x5) dX12_next_120 rfl ?_
          refine go_iload (x := x6) dX12_next_122 rfl ?_
          refine gsI2 MX12_greater dX12_next_124 lX12_599 kX12_greater sX12_greater (Nat.le_of_ble_eq_true rfl) vc ?_
          intro v6 h6 vc
          obtain ⟨hR6, vc⟩ := vc
          replace hR := hR6.trans hR
          refine go_iload_n (x := x3) dX12_next_127 rfl ?_
          refine go_icmp_lt 134 dX12_next_128 rfl (fun q => ?_) (fun q => ?_)
          · replace vc := vc.1 q
            refine go_iload (x := x5) dX12_next_134 rfl ?_
            refine go_iload (x := x6) dX12_next_136 rfl ?_
            refine gsI2 MX12_greater dX12_next_138 lX12_599 kX12_greater sX12_greater (Nat.le_of_ble_eq_true rfl) vc ?_
            intro v7 h7 vc
            obtain ⟨hR7, vc⟩ := vc
            replace hR := hR7.trans hR
            refine go_istore_n dX12_next_141 (Nat.le_of_ble_eq_true rfl) ?_
            show gg p l e s m args below meth c G (d + 1) MX12_next Q 142 [some (.ref 82), some (.int x1), some (.int x2), some (.int v7), some (.int x4), some (.int x5), some (.int x6), some (.int x7)] [] h7
            refine go_iload (x := x4) dX12_next_142 rfl ?_
            refine go_istore_n dX12_next_144 (Nat.le_of_ble_eq_true rfl) ?_
            show gg p l e s m args below meth c G (d + 1) MX12_next Q 145 [some (.ref 82), some (.int x1), some (.int x4), some (.int v7), some (.int x4), some (.int x5), some (.int x6), some (.int x7)] [] h7
            refine go_iinc (x := x4) dX12_next_145 rfl ?_
            show gg p l e s m args below meth c G (d + 1) MX12_next Q 148 [some (.ref 82), some (.int x1), some (.int x4), some (.int v7), some (.int (x4 + 1)), some (.int x5), some (.int x6), some (.int x7)] [] h7
            refine go_goto 34 dX12_next_148 rfl ?_
            refine go_weak (ls' := [some (.ref 82), some (.int x1), some (.int x4), some (.int v7), some (.int (x4 + 1)), none, none, none]) ?_ vc
            exact (⟨rfl, ⟨rfl, ⟨rfl, ⟨rfl, ⟨rfl, trivial⟩⟩⟩⟩⟩)
          · replace vc := vc.2 q
            refine go_goto 145 dX12_next_131 rfl ?_
            refine go_iinc (x := x4) dX12_next_145 rfl ?_
            show gg p l e s m args below meth c G (d + 1) MX12_next Q 148 [some (.ref 82), some (.int x1), some (.int x2), some (.int x3), some (.int (x4 + 1)), some (.int x5), some (.int x6), some (.int x7)] [] h6
            refine go_goto 34 dX12_next_148 rfl ?_
            refine go_weak (ls' := [some (.ref 82), some (.int x1), some (.int x2), some (.int x3), some (.int (x4 + 1)), none, none, none]) ?_ vc
            exact (⟨rfl, ⟨rfl, ⟨rfl, ⟨rfl, ⟨rfl, trivial⟩⟩⟩⟩⟩)
    · replace vc := vc.2 q
      refine go_aload_n (x := 82) dX12_next_68 rfl ?_
      refine go_iload (x := x7) dX12_next_69 rfl ?_
      refine gvI1 MX12_canTrust dX12_next_71 lX12_650 kX12_canTrust vX12_canTrust sh82 (by decide) rfl (Nat.le_of_ble_eq_true rfl) vc ?_
      intro v8 h8 vc
      obtain ⟨hR8, vc⟩ := vc
      replace hR := hR8.trans hR
      refine go_if_ne 80 dX12_next_74 rfl (fun q => ?_) (fun q => ?_)
      · replace vc := vc.1 q
        refine go_aload_n (x := 82) dX12_next_80 rfl ?_
        refine go_getR (x := 135) dX12_next_81 f12_172 sh82 (fun _ _ => rfl) (rf82_70 hR) ?_
        refine go_iload (x := x4) dX12_next_84 rfl ?_
        refine go_iald' (v := (h8.1 135 x4.toNatClampNeg)) dX12_next_86 sh135 vc.1 rfl ?_
        have vc := vc.2
        refine go_iload (x := x7) dX12_next_87 rfl ?_
        refine go_icmp_gt 98 dX12_next_89 rfl (fun q => ?_) (fun q => ?_)
        · replace vc := vc.1 q
          refine go_iinc (x := x6) dX12_next_98 rfl ?_
          show gg p l e s m args below meth c G (d + 1) MX12_next Q 101 [some (.ref 82), some (.int x1), some (.int x2), some (.int x3), some (.int x4), some (.int x5), some (.int (x6 + 1)), some (.int x7)] [] h8
          refine go_iinc (x := x7) dX12_next_101 rfl ?_
          show gg p l e s m args below meth c G (d + 1) MX12_next Q 104 [some (.ref 82), some (.int x1), some (.int x2), some (.int x3), some (.int x4), some (.int x5), some (.int (x6 + 1)), some (.int (x7 + 1))] [] h8
          refine go_goto 52 dX12_next_104 rfl ?_
          exact vc
        · replace vc := vc.2 q
          refine go_iinc (x := x5) dX12_next_92 rfl ?_
          show gg p l e s m args below meth c G (d + 1) MX12_next Q 95 [some (.ref 82), some (.int x1), some (.int x2), some (.int x3), some (.int x4), some (.int (x5 + 1)), some (.int x6), some (.int x7)] [] h8
          refine go_goto 101 dX12_next_95 rfl ?_
          refine go_iinc (x := x7) dX12_next_101 rfl ?_
          show gg p l e s m args below meth c G (d + 1) MX12_next Q 104 [some (.ref 82), some (.int x1), some (.int x2), some (.int x3), some (.int x4), some (.int (x5 + 1)), some (.int x6), some (.int (x7 + 1))] [] h8
          refine go_goto 52 dX12_next_104 rfl ?_
          exact vc
      · replace vc := vc.2 q
        refine go_goto 101 dX12_next_77 rfl ?_
        refine go_iinc (x := x7) dX12_next_101 rfl ?_
        show gg p l e s m args below meth c G (d + 1) MX12_next Q 104 [some (.ref 82), some (.int x1), some (.int x2), some (.int x3), some (.int x4), some (.int x5), some (.int x6), some (.int (x7 + 1))] [] h8
        refine go_goto 52 dX12_next_104 rfl ?_
        exact vc
set_option maxRecDepth 20000 in
theorem wX12_keeps_0 {p : Program} {l : Launch} {e : Env} {s : State} {m : MethodId} {args : Array Value} {below : List Frame} {meth : Method} {c : Code} {G : gG} {d : Nat} {Q : Option Value → gH → Prop} {h : gH} {lk sp : Nat} {cd : Option Nat}  (hR : h.2.2 = gRF lk sp cd) (hlk : lk = 30 ∨ lk = 67) (hsp : sp = 30 ∨ sp = 67)  (vc : gg p l e s m args below meth c G d MX12_keeps Q 15 [some (.ref 82), some (.int 0)] [] (sI h 82 81 (((h.1 82 81) + 1) - ((h.1 82 81) + 1) / 20 * 20))) : gg p l e s m args below meth c G d MX12_keeps Q 0 [some (.ref 82), none] [] h := by
  refine go_aload_n (x := 82) dX12_keeps_0 rfl ?_
  refine go_aload_n (x := 82) dX12_keeps_1 rfl ?_
  refine go_getI' (v := (h.1 82 81)) dX12_keeps_2 f12_653 sh82 (fun _ _ => rfl) rfl ?_
  refine go_iconst (v := 1) dX12_keeps_5 rfl ?_
  refine go_iadd dX12_keeps_6 ?_
  refine go_bipush (v := 20) dX12_keeps_7 rfl ?_
  refine go_irem dX12_keeps_9 (by decide) ?_
  refine go_putI dX12_keeps_10 f12_653 sh82 rfl rfl ?_
  refine go_iconst (v := 0) dX12_keeps_13 rfl ?_
  refine go_istore_n dX12_keeps_14 (Nat.le_of_ble_eq_true rfl) ?_
  show gg p l e s m args below meth c G d MX12_keeps Q 15 [some (.ref 82), some (.int 0)] [] (sI h 82 81 (((h.1 82 81) + 1) - ((h.1 82 81) + 1) / 20 * 20))
  exact vc
set_option maxRecDepth 20000 in
theorem wX12_keeps_15 {p : Program} {l : Launch} {e : Env} {s : State} {m : MethodId} {args : Array Value} {below : List Frame} {meth : Method} {c : Code} {G : gG} {d : Nat} {Q : Option Value → gH → Prop} {h : gH} {lk sp : Nat} {cd : Option Nat} {x1 : Int32} (hR : h.2.2 = gRF lk sp cd) (hlk : lk = 30 ∨ lk = 67) (hsp : sp = 30 ∨ sp = 67)  (vc : ((187 ≤ x1 → ((20 ≤ (h.1 82 80) → Q none h) ∧ (¬ 20 ≤ (h.1 82 80) → Q none (sI h 82 80 ((h.1 82 80) + 1))))) ∧ (¬ 187 ≤ x1 → (vp_in x1 187 ∧ (vp_in (((187 * (h.1 82 81)) + x1)) 3740 ∧ gg p l e s m args below meth c G d MX12_keeps Q 15 [some (.ref 82), some (.int (x1 + 1))] [] (sI h 142 (((187 * (h.1 82 81)) + x1) : Int32).toNatClampNeg (h.1 133 x1.toNatClampNeg))))))) : gg p l e s m args below meth c G d MX12_keeps Q 15 [some (.ref 82), some (.int x1)] [] h := by
  refine go_iload_n (x := x1) dX12_keeps_15 rfl ?_
  refine go_sipush (v := 187) dX12_keeps_16 rfl ?_
  refine go_icmp_ge 49 dX12_keeps_19 rfl (fun q => ?_) (fun q => ?_)
  · replace vc := vc.1 q
    refine go_aload_n (x := 82) dX12_keeps_49 rfl ?_
    refine go_getI' (v := (h.1 82 80)) dX12_keeps_50 f12_425 sh82 (fun _ _ => rfl) rfl ?_
    refine go_bipush (v := 20) dX12_keeps_53 rfl ?_
    refine go_icmp_ge 68 dX12_keeps_55 rfl (fun q => ?_) (fun q => ?_)
    · replace vc := vc.1 q
      exact go_vret dX12_keeps_68 rfl vc rfl (Nat.le_refl _) (Nat.le_refl _)
    · replace vc := vc.2 q
      refine go_aload_n (x := 82) dX12_keeps_58 rfl ?_
      refine go_dup dX12_keeps_59 rfl ?_
      refine go_getI' (v := (h.1 82 80)) dX12_keeps_60 f12_425 sh82 (fun _ _ => rfl) rfl ?_
      refine go_iconst (v := 1) dX12_keeps_63 rfl ?_
      refine go_iadd dX12_keeps_64 ?_
      refine go_putI dX12_keeps_65 f12_425 sh82 rfl rfl ?_
      exact go_vret dX12_keeps_68 rfl vc rfl (Nat.le_refl _) (Nat.le_refl _)
  · replace vc := vc.2 q
    refine go_aload_n (x := 82) dX12_keeps_22 rfl ?_
    refine go_getR (x := 142) dX12_keeps_23 f12_193 sh82 (fun _ _ => rfl) (rf82_79 hR) ?_
    refine go_sipush (v := 187) dX12_keeps_26 rfl ?_
    refine go_aload_n (x := 82) dX12_keeps_29 rfl ?_
    refine go_getI' (v := (h.1 82 81)) dX12_keeps_30 f12_653 sh82 (fun _ _ => rfl) rfl ?_
    refine go_imul dX12_keeps_33 ?_
    refine go_iload_n (x := x1) dX12_keeps_34 rfl ?_
    refine go_iadd dX12_keeps_35 ?_
    refine go_aload_n (x := 82) dX12_keeps_36 rfl ?_
    refine go_getR (x := 133) dX12_keeps_37 f12_166 sh82 (fun _ _ => rfl) (rf82_68 hR) ?_
    refine go_iload_n (x := x1) dX12_keeps_40 rfl ?_
    refine go_iald' (v := (h.1 133 x1.toNatClampNeg)) dX12_keeps_41 sh133 vc.1 rfl ?_
    have vc := vc.2
    refine go_iast dX12_keeps_42 sh142 vc.1 ?_
    have vc := vc.2
    show gg p l e s m args below meth c G d MX12_keeps Q 43 [some (.ref 82), some (.int x1)] [] (sI h 142 (((187 * (h.1 82 81)) + x1) : Int32).toNatClampNeg (h.1 133 x1.toNatClampNeg))
    refine go_iinc (x := x1) dX12_keeps_43 rfl ?_
    show gg p l e s m args below meth c G d MX12_keeps Q 46 [some (.ref 82), some (.int (x1 + 1))] [] (sI h 142 (((187 * (h.1 82 81)) + x1) : Int32).toNatClampNeg (h.1 133 x1.toNatClampNeg))
    refine go_goto 15 dX12_keeps_46 rfl ?_
    exact vc
set_option maxRecDepth 20000 in
theorem wX12_undo_0 {p : Program} {l : Launch} {e : Env} {s : State} {m : MethodId} {args : Array Value} {below : List Frame} {meth : Method} {c : Code} {G : gG} {d : Nat} {Q : Option Value → gH → Prop} {h : gH} {lk sp : Nat} {cd : Option Nat}  (hR : h.2.2 = gRF lk sp cd) (hlk : lk = 30 ∨ lk = 67) (hsp : sp = 30 ∨ sp = 67)  (vc : ((¬ (h.1 82 80) = 0 → gg p l e s m args below meth c G d MX12_undo Q 21 [some (.ref 82), some (.int 0)] [] h) ∧ ((h.1 82 80) = 0 → Q (some (.int 0)) (sI h 84 4 ((h.1 84 4) + 1))))) : gg p l e s m args below meth c G d MX12_undo Q 0 [some (.ref 82), none] [] h := by
  refine go_aload_n (x := 82) dX12_undo_0 rfl ?_
  refine go_getI' (v := (h.1 82 80)) dX12_undo_1 f12_425 sh82 (fun _ _ => rfl) rfl ?_
  refine go_if_ne 19 dX12_undo_4 rfl (fun q => ?_) (fun q => ?_)
  · replace vc := vc.1 q
    refine go_iconst (v := 0) dX12_undo_19 rfl ?_
    refine go_istore_n dX12_undo_20 (Nat.le_of_ble_eq_true rfl) ?_
    show gg p l e s m args below meth c G d MX12_undo Q 21 [some (.ref 82), some (.int 0)] [] h
    exact vc
  · replace vc := vc.2 q
    refine go_aload_n (x := 82) dX12_undo_7 rfl ?_
    refine go_getR (x := 84) dX12_undo_8 f12_17 sh82 (fun _ _ => rfl) (rf82_9 hR) ?_
    refine go_iconst (v := 4) dX12_undo_11 rfl ?_
    refine go_dup2 dX12_undo_12 rfl rfl ?_
    refine go_iald' (v := (h.1 84 4)) dX12_undo_13 sh84 (by unfold vp_in; decide) rfl ?_
    refine go_iconst (v := 1) dX12_undo_14 rfl ?_
    refine go_iadd dX12_undo_15 ?_
    refine go_iast dX12_undo_16 sh84 (by unfold vp_in; decide) ?_
    refine go_iconst (v := 0) dX12_undo_17 rfl ?_
    exact go_zret dX12_undo_18 rfl (by decide) vc rfl (Nat.le_refl _) (Nat.le_refl _)
set_option maxRecDepth 20000 in
theorem wX12_undo_21 {p : Program} {l : Launch} {e : Env} {s : State} {m : MethodId} {args : Array Value} {below : List Frame} {meth : Method} {c : Code} {G : gG} {d : Nat} {Q : Option Value → gH → Prop} {h : gH} {lk sp : Nat} {cd : Option Nat} {x1 : Int32} (hR : h.2.2 = gRF lk sp cd) (hlk : lk = 30 ∨ lk = 67) (hsp : sp = 30 ∨ sp = 67)  (vc : ((187 ≤ x1 → Q (some (.int 1)) (sI (sI h 82 81 ((((h.1 82 81) + 20) - 1) - (((h.1 82 81) + 20) - 1) / 20 * 20)) 82 80 ((h.1 82 80) - 1))) ∧ (¬ 187 ≤ x1 → (vp_in (((187 * (h.1 82 81)) + x1)) 3740 ∧ (vp_in x1 187 ∧ gg p l e s m args below meth c G d MX12_undo Q 21 [some (.ref 82), some (.int (x1 + 1))] [] (sI h 133 x1.toNatClampNeg (h.1 142 (((187 * (h.1 82 81)) + x1) : Int32).toNatClampNeg))))))) : gg p l e s m args below meth c G d MX12_undo Q 21 [some (.ref 82), some (.int x1)] [] h := by
  refine go_iload_n (x := x1) dX12_undo_21 rfl ?_
  refine go_sipush (v := 187) dX12_undo_22 rfl ?_
  refine go_icmp_ge 55 dX12_undo_25 rfl (fun q => ?_) (fun q => ?_)
  · replace vc := vc.1 q
    refine go_aload_n (x := 82) dX12_undo_55 rfl ?_
    refine go_aload_n (x := 82) dX12_undo_56 rfl ?_
    refine go_getI' (v := (h.1 82 81)) dX12_undo_57 f12_653 sh82 (fun _ _ => rfl) rfl ?_
    refine go_bipush (v := 20) dX12_undo_60 rfl ?_
    refine go_iadd dX12_undo_62 ?_
    refine go_iconst (v := 1) dX12_undo_63 rfl ?_
    refine go_isub dX12_undo_64 ?_
    refine go_bipush (v := 20) dX12_undo_65 rfl ?_
    refine go_irem dX12_undo_67 (by decide) ?_
    refine go_putI dX12_undo_68 f12_653 sh82 rfl rfl ?_
    refine go_aload_n (x := 82) dX12_undo_71 rfl ?_
    refine go_dup dX12_undo_72 rfl ?_
    refine go_getI' (v := (h.1 82 80)) dX12_undo_73 f12_425 sh82 (fun _ _ => rfl) rfl ?_
    refine go_iconst (v := 1) dX12_undo_76 rfl ?_
    refine go_isub dX12_undo_77 ?_
    refine go_putI dX12_undo_78 f12_425 sh82 rfl rfl ?_
    refine go_iconst (v := 1) dX12_undo_81 rfl ?_
    exact go_zret dX12_undo_82 rfl (by decide) vc rfl (Nat.le_refl _) (Nat.le_refl _)
  · replace vc := vc.2 q
    refine go_aload_n (x := 82) dX12_undo_28 rfl ?_
    refine go_getR (x := 133) dX12_undo_29 f12_166 sh82 (fun _ _ => rfl) (rf82_68 hR) ?_
    refine go_iload_n (x := x1) dX12_undo_32 rfl ?_
    refine go_aload_n (x := 82) dX12_undo_33 rfl ?_
    refine go_getR (x := 142) dX12_undo_34 f12_193 sh82 (fun _ _ => rfl) (rf82_79 hR) ?_
    refine go_sipush (v := 187) dX12_undo_37 rfl ?_
    refine go_aload_n (x := 82) dX12_undo_40 rfl ?_
    refine go_getI' (v := (h.1 82 81)) dX12_undo_41 f12_653 sh82 (fun _ _ => rfl) rfl ?_
    refine go_imul dX12_undo_44 ?_
    refine go_iload_n (x := x1) dX12_undo_45 rfl ?_
    refine go_iadd dX12_undo_46 ?_
    refine go_iald' (v := (h.1 142 (((187 * (h.1 82 81)) + x1) : Int32).toNatClampNeg)) dX12_undo_47 sh142 vc.1 rfl ?_
    have vc := vc.2
    refine go_iast dX12_undo_48 sh133 vc.1 ?_
    have vc := vc.2
    show gg p l e s m args below meth c G d MX12_undo Q 49 [some (.ref 82), some (.int x1)] [] (sI h 133 x1.toNatClampNeg (h.1 142 (((187 * (h.1 82 81)) + x1) : Int32).toNatClampNeg))
    refine go_iinc (x := x1) dX12_undo_49 rfl ?_
    show gg p l e s m args below meth c G d MX12_undo Q 52 [some (.ref 82), some (.int (x1 + 1))] [] (sI h 133 x1.toNatClampNeg (h.1 142 (((187 * (h.1 82 81)) + x1) : Int32).toNatClampNeg))
    refine go_goto 21 dX12_undo_52 rfl ?_
    exact vc
set_option maxRecDepth 20000 in
theorem wX12_refuses_0 {p : Program} {l : Launch} {e : Env} {s : State} {m : MethodId} {args : Array Value} {below : List Frame} {meth : Method} {c : Code} {G : gG} {d : Nat} {Q : Option Value → gH → Prop} {h : gH} {lk sp : Nat} {cd : Option Nat} {a1 : Int32} (hR : h.2.2 = gRF lk sp cd) (hlk : lk = 30 ∨ lk = 67) (hsp : sp = 30 ∨ sp = 67)  (vc : (vp_in a1 6 ∧ (vp_in a1 6 ∧ Q (some (.int (-1))) (sI h 84 a1.toNatClampNeg ((h.1 84 a1.toNatClampNeg) + 1))))) : gg p l e s m args below meth c G d MX12_refuses Q 0 [some (.ref 82), some (.int a1)] [] h := by
  refine go_aload_n (x := 82) dX12_refuses_0 rfl ?_
  refine go_getR (x := 84) dX12_refuses_1 f12_17 sh82 (fun _ _ => rfl) (rf82_9 hR) ?_
  refine go_iload_n (x := a1) dX12_refuses_4 rfl ?_
  refine go_dup2 dX12_refuses_5 rfl rfl ?_
  refine go_iald' (v := (h.1 84 a1.toNatClampNeg)) dX12_refuses_6 sh84 vc.1 rfl ?_
  have vc := vc.2
  refine go_iconst (v := 1) dX12_refuses_7 rfl ?_
  refine go_iadd dX12_refuses_8 ?_
  refine go_iast dX12_refuses_9 sh84 vc.1 ?_
  have vc := vc.2
  show gg p l e s m args below meth c G d MX12_refuses Q 10 [some (.ref 82), some (.int a1)] [] (sI h 84 a1.toNatClampNeg ((h.1 84 a1.toNatClampNeg) + 1))
  refine go_iconst (v := (-1)) dX12_refuses_10 rfl ?_
  exact go_iret dX12_refuses_11 rfl vc rfl (Nat.le_refl _) (Nat.le_refl _)
set_option maxRecDepth 20000 in
theorem wX12_go_0 {p : Program} {l : Launch} {e : Env} {s : State} {m : MethodId} {args : Array Value} {below : List Frame} {meth : Method} {c : Code} {G : gG} {d : Nat} {Q : Option Value → gH → Prop} {h : gH} {lk sp : Nat} {cd : Option Nat} {a1 : Int32} {a2 : Int32} (hR : h.2.2 = gRF lk sp cd) (hlk : lk = 30 ∨ lk = 67) (hsp : sp = 30 ∨ sp = 67)  (vc : gC l G d MX12_isBoat [.ref 82, .int a1] h (rI fun v1 h1 => h1.2.2 = (h).2.2 ∧ ((v1 = 0 → gC l G d MX12_refuses [.ref 82, .int 2] h1 (rI fun v2 h2 => h2.2.2 = (h1).2.2 ∧ Q (some (.int v2)) h2)) ∧ (¬ v1 = 0 → gC l G d MX12_cellOf [.ref 82, .int a1] h1 (rI fun v3 h3 => h3.2.2 = (h1).2.2 ∧ gC l G d MX12_isBeside [.ref 82, .int v3, .int a2] h3 (rI fun v4 h4 => h4.2.2 = (h3).2.2 ∧ ((¬ v4 = 0 → gC l G d MX12_keeps [.ref 82] h4 (rV fun h5 => h5.2.2 = (h4).2.2 ∧ gC l G d MX12_tries [.ref 82, .int a1, .int a2, .int (-1)] h5 (rI fun v6 h6 => h6.2.2 = (h5).2.2 ∧ ((v6 = 0 → Q (some (.int 0)) h6) ∧ (¬ v6 = 0 → Q (some (.int 1)) h6))))) ∧ (v4 = 0 → gC l G d MX12_refuses [.ref 82, .int 2] h4 (rI fun v7 h7 => h7.2.2 = (h4).2.2 ∧ Q (some (.int v7)) h7))))))))) : gg p l e s m args below meth c G (d + 1) MX12_go Q 0 [some (.ref 82), some (.int a1), some (.int a2)] [] h := by
  refine go_aload_n (x := 82) dX12_go_0 rfl ?_
  refine go_iload_n (x := a1) dX12_go_1 rfl ?_
  refine gvI1 MX12_isBoat dX12_go_2 lX12_564 kX12_isBoat vX12_isBoat sh82 (by decide) rfl (Nat.le_of_ble_eq_true rfl) vc ?_
  intro v1 h1 vc
  obtain ⟨hR1, vc⟩ := vc
  replace hR := hR1.trans hR
  refine go_if_eq 21 dX12_go_5 rfl (fun q => ?_) (fun q => ?_)
  · replace vc := vc.1 q
    refine go_aload_n (x := 82) dX12_go_21 rfl ?_
    refine go_iconst (v := 2) dX12_go_22 rfl ?_
    refine gvI1 MX12_refuses dX12_go_23 lX12_656 kX12_refuses vX12_refuses sh82 (by decide) rfl (Nat.le_of_ble_eq_true rfl) vc ?_
    intro v2 h2 vc
    obtain ⟨hR2, vc⟩ := vc
    replace hR := hR2.trans hR
    exact go_iret dX12_go_26 rfl vc rfl (Nat.le_refl _) (Nat.le_refl _)
  · replace vc := vc.2 q
    refine go_aload_n (x := 82) dX12_go_8 rfl ?_
    refine go_aload_n (x := 82) dX12_go_9 rfl ?_
    refine go_iload_n (x := a1) dX12_go_10 rfl ?_
    refine gvI1 MX12_cellOf dX12_go_11 lX12_504 kX12_cellOf vX12_cellOf sh82 (by decide) rfl (Nat.le_of_ble_eq_true rfl) vc ?_
    intro v3 h3 vc
    obtain ⟨hR3, vc⟩ := vc
    replace hR := hR3.trans hR
    refine go_iload_n (x := a2) dX12_go_14 rfl ?_
    refine gvI2 MX12_isBeside dX12_go_15 lX12_608 kX12_isBeside vX12_isBeside sh82 (by decide) rfl (Nat.le_of_ble_eq_true rfl) vc ?_
    intro v4 h4 vc
    obtain ⟨hR4, vc⟩ := vc
    replace hR := hR4.trans hR
    refine go_if_ne 27 dX12_go_18 rfl (fun q => ?_) (fun q => ?_)
    · replace vc := vc.1 q
      refine go_aload_n (x := 82) dX12_go_27 rfl ?_
      refine gvV0 MX12_keeps dX12_go_28 lX12_659 kX12_keeps vX12_keeps sh82 (by decide) rfl (Nat.le_of_ble_eq_true rfl) vc ?_
      intro h5 vc
      obtain ⟨hR5, vc⟩ := vc
      replace hR := hR5.trans hR
      refine go_aload_n (x := 82) dX12_go_31 rfl ?_
      refine go_iload_n (x := a1) dX12_go_32 rfl ?_
      refine go_iload_n (x := a2) dX12_go_33 rfl ?_
      refine go_iconst (v := (-1)) dX12_go_34 rfl ?_
      refine gvI3 MX12_tries dX12_go_35 lX12_612 kX12_tries vX12_tries sh82 (by decide) rfl (Nat.le_of_ble_eq_true rfl) vc ?_
      intro v6 h6 vc
      obtain ⟨hR6, vc⟩ := vc
      replace hR := hR6.trans hR
      refine go_if_eq 45 dX12_go_38 rfl (fun q => ?_) (fun q => ?_)
      · replace vc := vc.1 q
        refine go_iconst (v := 0) dX12_go_45 rfl ?_
        exact go_iret dX12_go_46 rfl vc rfl (Nat.le_refl _) (Nat.le_refl _)
      · replace vc := vc.2 q
        refine go_iconst (v := 1) dX12_go_41 rfl ?_
        refine go_goto 46 dX12_go_42 rfl ?_
        exact go_iret dX12_go_46 rfl vc rfl (Nat.le_refl _) (Nat.le_refl _)
    · replace vc := vc.2 q
      refine go_aload_n (x := 82) dX12_go_21 rfl ?_
      refine go_iconst (v := 2) dX12_go_22 rfl ?_
      refine gvI1 MX12_refuses dX12_go_23 lX12_656 kX12_refuses vX12_refuses sh82 (by decide) rfl (Nat.le_of_ble_eq_true rfl) vc ?_
      intro v7 h7 vc
      obtain ⟨hR7, vc⟩ := vc
      replace hR := hR7.trans hR
      exact go_iret dX12_go_26 rfl vc rfl (Nat.le_refl _) (Nat.le_refl _)
set_option maxRecDepth 20000 in
theorem wX12_file_0 {p : Program} {l : Launch} {e : Env} {s : State} {m : MethodId} {args : Array Value} {below : List Frame} {meth : Method} {c : Code} {G : gG} {d : Nat} {Q : Option Value → gH → Prop} {h : gH} {lk sp : Nat} {cd : Option Nat} {a1 : Int32} (hR : h.2.2 = gRF lk sp cd) (hlk : lk = 30 ∨ lk = 67) (hsp : sp = 30 ∨ sp = 67)  (vc : gC l G d MX12_isIn [.long ((h.1 82 1) : Int32).toInt64, .long 1, .long 6] (sI h 82 1 0) (rI fun v1 h1 => h1.2.2 = ((sI h 82 1 0)).2.2 ∧ gg p l e s m args below meth c G (d + 1) MX12_file Q 26 [some (.ref 82), some (.int a1), some (.int (h.1 82 1)), some (.int 0), some (.int v1), some (.int 0)] [] h1)) : gg p l e s m args below meth c G (d + 1) MX12_file Q 0 [some (.ref 82), some (.int a1), none, none, none, none] [] h := by
  refine go_aload_n (x := 82) dX12_file_0 rfl ?_
  refine go_getI' (v := (h.1 82 1)) dX12_file_1 f12_275 sh82 (fun _ _ => rfl) rfl ?_
  refine go_istore_n dX12_file_4 (Nat.le_of_ble_eq_true rfl) ?_
  show gg p l e s m args below meth c G (d + 1) MX12_file Q 5 [some (.ref 82), some (.int a1), some (.int (h.1 82 1)), none, none, none] [] h
  refine go_aload_n (x := 82) dX12_file_5 rfl ?_
  refine go_iconst (v := 0) dX12_file_6 rfl ?_
  refine go_putI dX12_file_7 f12_275 sh82 rfl rfl ?_
  refine go_iconst (v := 0) dX12_file_10 rfl ?_
  refine go_istore_n dX12_file_11 (Nat.le_of_ble_eq_true rfl) ?_
  show gg p l e s m args below meth c G (d + 1) MX12_file Q 12 [some (.ref 82), some (.int a1), some (.int (h.1 82 1)), some (.int 0), none, none] [] (sI h 82 1 0)
  refine go_iload_n (x := (h.1 82 1)) dX12_file_12 rfl ?_
  refine go_i2l dX12_file_13 ?_
  refine go_lconst (v := 1) dX12_file_14 rfl ?_
  refine go_ldc2 (v := 6) dX12_file_15 nX12_662 ?_
  refine gsI3 MX12_isIn dX12_file_18 lX12_321 kX12_isIn sX12_isIn (Nat.le_of_ble_eq_true rfl) vc ?_
  intro v1 h1 vc
  obtain ⟨hR1, vc⟩ := vc
  replace hR := hR1.trans hR
  refine go_istore dX12_file_21 (Nat.le_of_ble_eq_true rfl) ?_
  show gg p l e s m args below meth c G (d + 1) MX12_file Q 23 [some (.ref 82), some (.int a1), some (.int (h.1 82 1)), some (.int 0), some (.int v1), none] [] h1
  refine go_iconst (v := 0) dX12_file_23 rfl ?_
  refine go_istore dX12_file_24 (Nat.le_of_ble_eq_true rfl) ?_
  show gg p l e s m args below meth c G (d + 1) MX12_file Q 26 [some (.ref 82), some (.int a1), some (.int (h.1 82 1)), some (.int 0), some (.int v1), some (.int 0)] [] h1
  exact vc
set_option maxRecDepth 20000 in
theorem wX12_file_26 {p : Program} {l : Launch} {e : Env} {s : State} {m : MethodId} {args : Array Value} {below : List Frame} {meth : Method} {c : Code} {G : gG} {d : Nat} {Q : Option Value → gH → Prop} {h : gH} {lk sp : Nat} {cd : Option Nat} {x1 : Int32} {x2 : Int32} {x3 : Int32} {x4 : Int32} {x5 : Int32} (hR : h.2.2 = gRF lk sp cd) (hlk : lk = 30 ∨ lk = 67) (hsp : sp = 30 ∨ sp = 67)  (vc : ((x2 ≤ x5 → ((x4 = 0 → gC l G d MX12_refuses [.ref 82, .int 2] h (rI fun v1 h1 => h1.2.2 = (h).2.2 ∧ Q (some (.int v1)) h1)) ∧ (¬ x4 = 0 → gC l G d MX12_canFile [.ref 82, .int x3, .int x1] h (rI fun v2 h2 => h2.2.2 = (h).2.2 ∧ ((¬ v2 = 0 → gC l G d MX12_keeps [.ref 82] h2 (rV fun h3 => h3.2.2 = (h2).2.2 ∧ gC l G d MX12_files [.ref 82, .int x2, .int x1] h3 (rI fun v4 h4 => h4.2.2 = (h3).2.2 ∧ Q (some (.int v4)) h4))) ∧ (v2 = 0 → gC l G d MX12_refuses [.ref 82, .int 2] h2 (rI fun v5 h5 => h5.2.2 = (h2).2.2 ∧ Q (some (.int v5)) h5))))))) ∧ (¬ x2 ≤ x5 → ((x4 = 0 → ((x4 = 0 → gC l G d MX12_refuses [.ref 82, .int 2] h (rI fun v6 h6 => h6.2.2 = (h).2.2 ∧ Q (some (.int v6)) h6)) ∧ (¬ x4 = 0 → gC l G d MX12_canFile [.ref 82, .int x3, .int x1] h (rI fun v7 h7 => h7.2.2 = (h).2.2 ∧ ((¬ v7 = 0 → gC l G d MX12_keeps [.ref 82] h7 (rV fun h8 => h8.2.2 = (h7).2.2 ∧ gC l G d MX12_files [.ref 82, .int x2, .int x1] h8 (rI fun v9 h9 => h9.2.2 = (h8).2.2 ∧ Q (some (.int v9)) h9))) ∧ (v7 = 0 → gC l G d MX12_refuses [.ref 82, .int 2] h7 (rI fun v10 h10 => h10.2.2 = (h7).2.2 ∧ Q (some (.int v10)) h10))))))) ∧ (¬ x4 = 0 → (vp_in x5 1600 ∧ gC l G d MX12_isBoat [.ref 82, .int (h.1 83 x5.toNatClampNeg)] h (rI fun v11 h11 => h11.2.2 = (h).2.2 ∧ ((v11 = 0 → gg p l e s m args below meth c G (d + 1) MX12_file Q 26 [some (.ref 82), some (.int x1), some (.int x2), some (.int x3), some (.int 0), some (.int (x5 + 1))] [] h11) ∧ (¬ v11 = 0 → (vp_in x5 1600 ∧ ((¬ ((x3 >>> ((h11.1 83 x5.toNatClampNeg) &&& 31)) &&& 1) = 0 → gg p l e s m args below meth c G (d + 1) MX12_file Q 26 [some (.ref 82), some (.int x1), some (.int x2), some (.int x3), some (.int 0), some (.int (x5 + 1))] [] h11) ∧ (((x3 >>> ((h11.1 83 x5.toNatClampNeg) &&& 31)) &&& 1) = 0 → (vp_in x5 1600 ∧ (vp_in x5 1600 ∧ (vp_in x5 6 ∧ gg p l e s m args below meth c G (d + 1) MX12_file Q 26 [some (.ref 82), some (.int x1), some (.int x2), some (.int (x3 ||| (1 <<< ((h11.1 83 x5.toNatClampNeg) &&& 31)))), some (.int 1), some (.int (x5 + 1))] [] (sI h11 137 x5.toNatClampNeg (h11.1 83 x5.toNatClampNeg))))))))))))))))) : gg p l e s m args below meth c G (d + 1) MX12_file Q 26 [some (.ref 82), some (.int x1), some (.int x2), some (.int x3), some (.int x4), some (.int x5)] [] h := by
  refine go_iload (x := x5) dX12_file_26 rfl ?_
  refine go_iload_n (x := x2) dX12_file_28 rfl ?_
  refine go_icmp_ge 112 dX12_file_29 rfl (fun q => ?_) (fun q => ?_)
  · replace vc := vc.1 q
    refine go_iload (x := x4) dX12_file_112 rfl ?_
    refine go_if_eq 126 dX12_file_114 rfl (fun q => ?_) (fun q => ?_)
    · replace vc := vc.1 q
      refine go_aload_n (x := 82) dX12_file_126 rfl ?_
      refine go_iconst (v := 2) dX12_file_127 rfl ?_
      refine gvI1 MX12_refuses dX12_file_128 lX12_656 kX12_refuses vX12_refuses sh82 (by decide) rfl (Nat.le_of_ble_eq_true rfl) vc ?_
      intro v1 h1 vc
      obtain ⟨hR1, vc⟩ := vc
      replace hR := hR1.trans hR
      exact go_iret dX12_file_131 rfl vc rfl (Nat.le_refl _) (Nat.le_refl _)
    · replace vc := vc.2 q
      refine go_aload_n (x := 82) dX12_file_117 rfl ?_
      refine go_iload_n (x := x3) dX12_file_118 rfl ?_
      refine go_iload_n (x := x1) dX12_file_119 rfl ?_
      refine gvI2 MX12_canFile dX12_file_120 lX12_615 kX12_canFile vX12_canFile sh82 (by decide) rfl (Nat.le_of_ble_eq_true rfl) vc ?_
      intro v2 h2 vc
      obtain ⟨hR2, vc⟩ := vc
      replace hR := hR2.trans hR
      refine go_if_ne 132 dX12_file_123 rfl (fun q => ?_) (fun q => ?_)
      · replace vc := vc.1 q
        refine go_aload_n (x := 82) dX12_file_132 rfl ?_
        refine gvV0 MX12_keeps dX12_file_133 lX12_659 kX12_keeps vX12_keeps sh82 (by decide) rfl (Nat.le_of_ble_eq_true rfl) vc ?_
        intro h3 vc
        obtain ⟨hR3, vc⟩ := vc
        replace hR := hR3.trans hR
        refine go_aload_n (x := 82) dX12_file_136 rfl ?_
        refine go_iload_n (x := x2) dX12_file_137 rfl ?_
        refine go_iload_n (x := x1) dX12_file_138 rfl ?_
        refine gvI2 MX12_files dX12_file_139 lX12_627 kX12_files vX12_files sh82 (by decide) rfl (Nat.le_of_ble_eq_true rfl) vc ?_
        intro v4 h4 vc
        obtain ⟨hR4, vc⟩ := vc
        replace hR := hR4.trans hR
        exact go_iret dX12_file_142 rfl vc rfl (Nat.le_refl _) (Nat.le_refl _)
      · replace vc := vc.2 q
        refine go_aload_n (x := 82) dX12_file_126 rfl ?_
        refine go_iconst (v := 2) dX12_file_127 rfl ?_
        refine gvI1 MX12_refuses dX12_file_128 lX12_656 kX12_refuses vX12_refuses sh82 (by decide) rfl (Nat.le_of_ble_eq_true rfl) vc ?_
        intro v5 h5 vc
        obtain ⟨hR5, vc⟩ := vc
        replace hR := hR5.trans hR
        exact go_iret dX12_file_131 rfl vc rfl (Nat.le_refl _) (Nat.le_refl _)
  · replace vc := vc.2 q
    refine go_iload (x := x4) dX12_file_32 rfl ?_
    refine go_if_eq 112 dX12_file_34 rfl (fun q => ?_) (fun q => ?_)
    · replace vc := vc.1 q
      refine go_iload (x := x4) dX12_file_112 rfl ?_
      refine go_if_eq 126 dX12_file_114 rfl (fun q => ?_) (fun q => ?_)
      · replace vc := vc.1 q
        refine go_aload_n (x := 82) dX12_file_126 rfl ?_
        refine go_iconst (v := 2) dX12_file_127 rfl ?_
        refine gvI1 MX12_refuses dX12_file_128 lX12_656 kX12_refuses vX12_refuses sh82 (by decide) rfl (Nat.le_of_ble_eq_true rfl) vc ?_
        intro v6 h6 vc
        obtain ⟨hR6, vc⟩ := vc
        replace hR := hR6.trans hR
        exact go_iret dX12_file_131 rfl vc rfl (Nat.le_refl _) (Nat.le_refl _)
      · replace vc := vc.2 q
        refine go_aload_n (x := 82) dX12_file_117 rfl ?_
        refine go_iload_n (x := x3) dX12_file_118 rfl ?_
        refine go_iload_n (x := x1) dX12_file_119 rfl ?_
        refine gvI2 MX12_canFile dX12_file_120 lX12_615 kX12_canFile vX12_canFile sh82 (by decide) rfl (Nat.le_of_ble_eq_true rfl) vc ?_
        intro v7 h7 vc
        obtain ⟨hR7, vc⟩ := vc
        replace hR := hR7.trans hR
        refine go_if_ne 132 dX12_file_123 rfl (fun q => ?_) (fun q => ?_)
        · replace vc := vc.1 q
          refine go_aload_n (x := 82) dX12_file_132 rfl ?_
          refine gvV0 MX12_keeps dX12_file_133 lX12_659 kX12_keeps vX12_keeps sh82 (by decide) rfl (Nat.le_of_ble_eq_true rfl) vc ?_
          intro h8 vc
          obtain ⟨hR8, vc⟩ := vc
          replace hR := hR8.trans hR
          refine go_aload_n (x := 82) dX12_file_136 rfl ?_
          refine go_iload_n (x := x2) dX12_file_137 rfl ?_
          refine go_iload_n (x := x1) dX12_file_138 rfl ?_
          refine gvI2 MX12_files dX12_file_139 lX12_627 kX12_files vX12_files sh82 (by decide) rfl (Nat.le_of_ble_eq_true rfl) vc ?_
          intro v9 h9 vc
          obtain ⟨hR9, vc⟩ := vc
          replace hR := hR9.trans hR
          exact go_iret dX12_file_142 rfl vc rfl (Nat.le_refl _) (Nat.le_refl _)
        · replace vc := vc.2 q
          refine go_aload_n (x := 82) dX12_file_126 rfl ?_
          refine go_iconst (v := 2) dX12_file_127 rfl ?_
          refine gvI1 MX12_refuses dX12_file_128 lX12_656 kX12_refuses vX12_refuses sh82 (by decide) rfl (Nat.le_of_ble_eq_true rfl) vc ?_
          intro v10 h10 vc
          obtain ⟨hR10, vc⟩ := vc
          replace hR := hR10.trans hR
          exact go_iret dX12_file_131 rfl vc rfl (Nat.le_refl _) (Nat.le_refl _)
    · replace vc := vc.2 q
      refine go_aload_n (x := 82) dX12_file_37 rfl ?_
      refine go_aload_n (x := 82) dX12_file_38 rfl ?_
      refine go_getR (x := 83) dX12_file_39 f12_7 sh82 (fun _ _ => rfl) (rf82_0 hR) ?_
      refine go_iload (x := x5) dX12_file_42 rfl ?_
      refine go_iald' (v := (h.1 83 x5.toNatClampNeg)) dX12_file_44 sh83 vc.1 rfl ?_
      have vc := vc.2
      refine gvI1 MX12_isBoat dX12_file_45 lX12_564 kX12_isBoat vX12_isBoat sh82 (by decide) rfl (Nat.le_of_ble_eq_true rfl) vc ?_
      intro v11 h11 vc
      obtain ⟨hR11, vc⟩ := vc
      replace hR := hR11.trans hR
      refine go_if_eq 69 dX12_file_48 rfl (fun q => ?_) (fun q => ?_)
      · replace vc := vc.1 q
        refine go_iconst (v := 0) dX12_file_69 rfl ?_
        refine go_istore dX12_file_70 (Nat.le_of_ble_eq_true rfl) ?_
        show gg p l e s m args below meth c G (d + 1) MX12_file Q 72 [some (.ref 82), some (.int x1), some (.int x2), some (.int x3), some (.int 0), some (.int x5)] [] h11
        refine go_iload (x := 0) dX12_file_72 rfl ?_
        refine go_if_ne 80 dX12_file_74 rfl (fun q => absurd q (by decide)) (fun q => ?_)
        refine go_goto 106 dX12_file_77 rfl ?_
        refine go_iinc (x := x5) dX12_file_106 rfl ?_
        show gg p l e s m args below meth c G (d + 1) MX12_file Q 109 [some (.ref 82), some (.int x1), some (.int x2), some (.int x3), some (.int 0), some (.int (x5 + 1))] [] h11
        refine go_goto 26 dX12_file_109 rfl ?_
        exact vc
      · replace vc := vc.2 q
        refine go_iload_n (x := x3) dX12_file_51 rfl ?_
        refine go_aload_n (x := 82) dX12_file_52 rfl ?_
        refine go_getR (x := 83) dX12_file_53 f12_7 sh82 (fun _ _ => rfl) (rf82_0 hR) ?_
        refine go_iload (x := x5) dX12_file_56 rfl ?_
        refine go_iald' (v := (h11.1 83 x5.toNatClampNeg)) dX12_file_58 sh83 vc.1 rfl ?_
        have vc := vc.2
        refine go_ishr dX12_file_59 ?_
        refine go_iconst (v := 1) dX12_file_60 rfl ?_
        refine go_iand dX12_file_61 ?_
        refine go_if_ne 69 dX12_file_62 rfl (fun q => ?_) (fun q => ?_)
        · replace vc := vc.1 q
          refine go_iconst (v := 0) dX12_file_69 rfl ?_
          refine go_istore dX12_file_70 (Nat.le_of_ble_eq_true rfl) ?_
          show gg p l e s m args below meth c G (d + 1) MX12_file Q 72 [some (.ref 82), some (.int x1), some (.int x2), some (.int x3), some (.int 0), some (.int x5)] [] h11
          refine go_iload (x := 0) dX12_file_72 rfl ?_
          refine go_if_ne 80 dX12_file_74 rfl (fun q => absurd q (by decide)) (fun q => ?_)
          refine go_goto 106 dX12_file_77 rfl ?_
          refine go_iinc (x := x5) dX12_file_106 rfl ?_
          show gg p l e s m args below meth c G (d + 1) MX12_file Q 109 [some (.ref 82), some (.int x1), some (.int x2), some (.int x3), some (.int 0), some (.int (x5 + 1))] [] h11
          refine go_goto 26 dX12_file_109 rfl ?_
          exact vc
        · replace vc := vc.2 q
          refine go_iconst (v := 1) dX12_file_65 rfl ?_
          refine go_goto 70 dX12_file_66 rfl ?_
          refine go_istore dX12_file_70 (Nat.le_of_ble_eq_true rfl) ?_
          show gg p l e s m args below meth c G (d + 1) MX12_file Q 72 [some (.ref 82), some (.int x1), some (.int x2), some (.int x3), some (.int 1), some (.int x5)] [] h11
          refine go_iload (x := 1) dX12_file_72 rfl ?_
          refine go_if_ne 80 dX12_file_74 rfl (fun q => ?_) (fun q => absurd q (by decide))
          refine go_iload_n (x := x3) dX12_file_80 rfl ?_
          refine go_iconst (v := 1) dX12_file_81 rfl ?_
          refine go_aload_n (x := 82) dX12_file_82 rfl ?_
          refine go_getR (x := 83) dX12_file_83 f12_7 sh82 (fun _ _ => rfl) (rf82_0 hR) ?_
          refine go_iload (x := x5) dX12_file_86 rfl ?_
          refine go_iald' (v := (h11.1 83 x5.toNatClampNeg)) dX12_file_88 sh83 vc.1 rfl ?_
          have vc := vc.2
          refine go_ishl dX12_file_89 ?_
          refine go_ior dX12_file_90 ?_
          refine go_istore_n dX12_file_91 (Nat.le_of_ble_eq_true rfl) ?_
          show gg p l e s m args below meth c G (d + 1) MX12_file Q 92 [some (.ref 82), some (.int x1), some (.int x2), some (.int (x3 ||| (1 <<< ((h11.1 83 x5.toNatClampNeg) &&& 31)))), some (.int 1), some (.int x5)] [] h11
          refine go_aload_n (x := 82) dX12_file_92 rfl ?_
          refine go_getR (x := 137) dX12_file_93 f12_178 sh82 (fun _ _ => rfl) (rf82_72 hR) ?_
          refine go_iload (x := x5) dX12_file_96 rfl ?_
          refine go_aload_n (x := 82) dX12_file_98 rfl ?_
          refine go_getR (x := 83) dX12_file_99 f12_7 sh82 (fun _ _ => rfl) (rf82_0 hR) ?_
          refine go_iload (x := x5) dX12_file_102 rfl ?_
          refine go_iald' (v := (h11.1 83 x5.toNatClampNeg)) dX12_file_104 sh83 vc.1 rfl ?_
          have vc := vc.2
          refine go_iast dX12_file_105 sh137 vc.1 ?_
          have vc := vc.2
          show gg p l e s m args below meth c G (d + 1) MX12_file Q 106 [some (.ref 82), some (.int x1), some (.int x2), some (.int (x3 ||| (1 <<< ((h11.1 83 x5.toNatClampNeg) &&& 31)))), some (.int 1), some (.int x5)] [] (sI h11 137 x5.toNatClampNeg (h11.1 83 x5.toNatClampNeg))
          refine go_iinc (x := x5) dX12_file_106 rfl ?_
          show gg p l e s m args below meth c G (d + 1) MX12_file Q 109 [some (.ref 82), some (.int x1), some (.int x2), some (.int (x3 ||| (1 <<< ((h11.1 83 x5.toNatClampNeg) &&& 31)))), some (.int 1), some (.int (x5 + 1))] [] (sI h11 137 x5.toNatClampNeg (h11.1 83 x5.toNatClampNeg))
          refine go_goto 26 dX12_file_109 rfl ?_
          exact vc
set_option maxRecDepth 20000 in
theorem wX12_coax_0 {p : Program} {l : Launch} {e : Env} {s : State} {m : MethodId} {args : Array Value} {below : List Frame} {meth : Method} {c : Code} {G : gG} {d : Nat} {Q : Option Value → gH → Prop} {h : gH} {lk sp : Nat} {cd : Option Nat} {a1 : Int32} {a2 : Int32} (hR : h.2.2 = gRF lk sp cd) (hlk : lk = 30 ∨ lk = 67) (hsp : sp = 30 ∨ sp = 67)  (vc : gC l G d MX12_isBoat [.ref 82, .int a1] h (rI fun v1 h1 => h1.2.2 = (h).2.2 ∧ ((v1 = 0 → gC l G d MX12_refuses [.ref 82, .int 3] h1 (rI fun v2 h2 => h2.2.2 = (h1).2.2 ∧ Q (some (.int v2)) h2)) ∧ (¬ v1 = 0 → gC l G d MX12_isIn [.long (a2 : Int32).toInt64, .long 1, .long 99] h1 (rI fun v3 h3 => h3.2.2 = (h1).2.2 ∧ ((¬ v3 = 0 → gC l G d MX12_keeps [.ref 82] h3 (rV fun h4 => h4.2.2 = (h3).2.2 ∧ gC l G d MX12_trustOf [.ref 82, .int a1] h4 (rI fun v5 h5 => h5.2.2 = (h4).2.2 ∧ (((v5 + (a2 * (h5.1 126 1))) ≤ 99 → (vp_in (((2 + (4 * a1)) + 1)) 187 ∧ (((((sI h5 133 (((2 + (4 * a1)) + 1) : Int32).toNatClampNeg (v5 + (a2 * (h5.1 126 1)))).1 133 1) + a2) ≤ 999999 → gC l G d MX12_trustOf [.ref 82, .int a1] (sI (sI h5 133 (((2 + (4 * a1)) + 1) : Int32).toNatClampNeg (v5 + (a2 * (h5.1 126 1)))) 133 1 (((sI h5 133 (((2 + (4 * a1)) + 1) : Int32).toNatClampNeg (v5 + (a2 * (h5.1 126 1)))).1 133 1) + a2)) (rI fun v6 h6 => h6.2.2 = ((sI (sI h5 133 (((2 + (4 * a1)) + 1) : Int32).toNatClampNeg (v5 + (a2 * (h5.1 126 1)))) 133 1 (((sI h5 133 (((2 + (4 * a1)) + 1) : Int32).toNatClampNeg (v5 + (a2 * (h5.1 126 1)))).1 133 1) + a2))).2.2 ∧ Q (some (.int v6)) h6)) ∧ (¬ (((sI h5 133 (((2 + (4 * a1)) + 1) : Int32).toNatClampNeg (v5 + (a2 * (h5.1 126 1)))).1 133 1) + a2) ≤ 999999 → gC l G d MX12_trustOf [.ref 82, .int a1] (sI (sI h5 133 (((2 + (4 * a1)) + 1) : Int32).toNatClampNeg (v5 + (a2 * (h5.1 126 1)))) 133 1 999999) (rI fun v7 h7 => h7.2.2 = ((sI (sI h5 133 (((2 + (4 * a1)) + 1) : Int32).toNatClampNeg (v5 + (a2 * (h5.1 126 1)))) 133 1 999999)).2.2 ∧ Q (some (.int v7)) h7))))) ∧ (¬ (v5 + (a2 * (h5.1 126 1))) ≤ 99 → (vp_in (((2 + (4 * a1)) + 1)) 187 ∧ (((((sI h5 133 (((2 + (4 * a1)) + 1) : Int32).toNatClampNeg 99).1 133 1) + a2) ≤ 999999 → gC l G d MX12_trustOf [.ref 82, .int a1] (sI (sI h5 133 (((2 + (4 * a1)) + 1) : Int32).toNatClampNeg 99) 133 1 (((sI h5 133 (((2 + (4 * a1)) + 1) : Int32).toNatClampNeg 99).1 133 1) + a2)) (rI fun v8 h8 => h8.2.2 = ((sI (sI h5 133 (((2 + (4 * a1)) + 1) : Int32).toNatClampNeg 99) 133 1 (((sI h5 133 (((2 + (4 * a1)) + 1) : Int32).toNatClampNeg 99).1 133 1) + a2))).2.2 ∧ Q (some (.int v8)) h8)) ∧ (¬ (((sI h5 133 (((2 + (4 * a1)) + 1) : Int32).toNatClampNeg 99).1 133 1) + a2) ≤ 999999 → gC l G d MX12_trustOf [.ref 82, .int a1] (sI (sI h5 133 (((2 + (4 * a1)) + 1) : Int32).toNatClampNeg 99) 133 1 999999) (rI fun v9 h9 => h9.2.2 = ((sI (sI h5 133 (((2 + (4 * a1)) + 1) : Int32).toNatClampNeg 99) 133 1 999999)).2.2 ∧ Q (some (.int v9)) h9))))))))) ∧ (v3 = 0 → gC l G d MX12_refuses [.ref 82, .int 3] h3 (rI fun v10 h10 => h10.2.2 = (h3).2.2 ∧ Q (some (.int v10)) h10)))))))) : gg p l e s m args below meth c G (d + 1) MX12_coax Q 0 [some (.ref 82), some (.int a1), some (.int a2), none, none] [] h := by
  refine go_aload_n (x := 82) dX12_coax_0 rfl ?_
  refine go_iload_n (x := a1) dX12_coax_1 rfl ?_
  refine gvI1 MX12_isBoat dX12_coax_2 lX12_564 kX12_isBoat vX12_isBoat sh82 (by decide) rfl (Nat.le_of_ble_eq_true rfl) vc ?_
  intro v1 h1 vc
  obtain ⟨hR1, vc⟩ := vc
  replace hR := hR1.trans hR
  refine go_if_eq 20 dX12_coax_5 rfl (fun q => ?_) (fun q => ?_)
  · replace vc := vc.1 q
    refine go_aload_n (x := 82) dX12_coax_20 rfl ?_
    refine go_iconst (v := 3) dX12_coax_21 rfl ?_
    refine gvI1 MX12_refuses dX12_coax_22 lX12_656 kX12_refuses vX12_refuses sh82 (by decide) rfl (Nat.le_of_ble_eq_true rfl) vc ?_
    intro v2 h2 vc
    obtain ⟨hR2, vc⟩ := vc
    replace hR := hR2.trans hR
    exact go_iret dX12_coax_25 rfl vc rfl (Nat.le_refl _) (Nat.le_refl _)
  · replace vc := vc.2 q
    refine go_iload_n (x := a2) dX12_coax_8 rfl ?_
    refine go_i2l dX12_coax_9 ?_
    refine go_lconst (v := 1) dX12_coax_10 rfl ?_
    refine go_ldc2 (v := 99) dX12_coax_11 nX12_532 ?_
    refine gsI3 MX12_isIn dX12_coax_14 lX12_321 kX12_isIn sX12_isIn (Nat.le_of_ble_eq_true rfl) vc ?_
    intro v3 h3 vc
    obtain ⟨hR3, vc⟩ := vc
    replace hR := hR3.trans hR
    refine go_if_ne 26 dX12_coax_17 rfl (fun q => ?_) (fun q => ?_)
    · replace vc := vc.1 q
      refine go_aload_n (x := 82) dX12_coax_26 rfl ?_
      refine gvV0 MX12_keeps dX12_coax_27 lX12_659 kX12_keeps vX12_keeps sh82 (by decide) rfl (Nat.le_of_ble_eq_true rfl) vc ?_
      intro h4 vc
      obtain ⟨hR4, vc⟩ := vc
      replace hR := hR4.trans hR
      refine go_aload_n (x := 82) dX12_coax_30 rfl ?_
      refine go_iload_n (x := a1) dX12_coax_31 rfl ?_
      refine gvI1 MX12_trustOf dX12_coax_32 lX12_522 kX12_trustOf vX12_trustOf sh82 (by decide) rfl (Nat.le_of_ble_eq_true rfl) vc ?_
      intro v5 h5 vc
      obtain ⟨hR5, vc⟩ := vc
      replace hR := hR5.trans hR
      refine go_iload_n (x := a2) dX12_coax_35 rfl ?_
      refine go_aload_n (x := 82) dX12_coax_36 rfl ?_
      refine go_getR (x := 126) dX12_coax_37 f12_145 sh82 (fun _ _ => rfl) (rf82_53 hR) ?_
      refine go_iconst (v := 1) dX12_coax_40 rfl ?_
      refine go_iald' (v := (h5.1 126 1)) dX12_coax_41 sh126 (by unfold vp_in; decide) rfl ?_
      refine go_imul dX12_coax_42 ?_
      refine go_iadd dX12_coax_43 ?_
      refine go_istore_n dX12_coax_44 (Nat.le_of_ble_eq_true rfl) ?_
      show gg p l e s m args below meth c G (d + 1) MX12_coax Q 45 [some (.ref 82), some (.int a1), some (.int a2), some (.int (v5 + (a2 * (h5.1 126 1)))), none] [] h5
      refine go_aload_n (x := 82) dX12_coax_45 rfl ?_
      refine go_getR (x := 133) dX12_coax_46 f12_166 sh82 (fun _ _ => rfl) (rf82_68 hR) ?_
      refine go_iconst (v := 2) dX12_coax_49 rfl ?_
      refine go_iconst (v := 4) dX12_coax_50 rfl ?_
      refine go_iload_n (x := a1) dX12_coax_51 rfl ?_
      refine go_imul dX12_coax_52 ?_
      refine go_iadd dX12_coax_53 ?_
      refine go_iconst (v := 1) dX12_coax_54 rfl ?_
      refine go_iadd dX12_coax_55 ?_
      refine go_iload_n (x := (v5 + (a2 * (h5.1 126 1)))) dX12_coax_56 rfl ?_
      refine go_bipush (v := 99) dX12_coax_57 rfl ?_
      refine go_icmp_le 67 dX12_coax_59 rfl (fun q => ?_) (fun q => ?_)
      · replace vc := vc.1 q
        refine go_iload_n (x := (v5 + (a2 * (h5.1 126 1)))) dX12_coax_67 rfl ?_
        refine go_iast dX12_coax_68 sh133 vc.1 ?_
        have vc := vc.2
        show gg p l e s m args below meth c G (d + 1) MX12_coax Q 69 [some (.ref 82), some (.int a1), some (.int a2), some (.int (v5 + (a2 * (h5.1 126 1)))), none] [] (sI h5 133 (((2 + (4 * a1)) + 1) : Int32).toNatClampNeg (v5 + (a2 * (h5.1 126 1))))
        refine go_aload_n (x := 82) dX12_coax_69 rfl ?_
        refine go_getR (x := 133) dX12_coax_70 f12_166 sh82 (fun _ _ => rfl) (rf82_68 hR) ?_
        refine go_iconst (v := 1) dX12_coax_73 rfl ?_
        refine go_iald' (v := ((sI h5 133 (((2 + (4 * a1)) + 1) : Int32).toNatClampNeg (v5 + (a2 * (h5.1 126 1)))).1 133 1)) dX12_coax_74 sh133 (by unfold vp_in; decide) rfl ?_
        refine go_iload_n (x := a2) dX12_coax_75 rfl ?_
        refine go_iadd dX12_coax_76 ?_
        refine go_istore dX12_coax_77 (Nat.le_of_ble_eq_true rfl) ?_
        show gg p l e s m args below meth c G (d + 1) MX12_coax Q 79 [some (.ref 82), some (.int a1), some (.int a2), some (.int (v5 + (a2 * (h5.1 126 1)))), some (.int (((sI h5 133 (((2 + (4 * a1)) + 1) : Int32).toNatClampNeg (v5 + (a2 * (h5.1 126 1)))).1 133 1) + a2))] [] (sI h5 133 (((2 + (4 * a1)) + 1) : Int32).toNatClampNeg (v5 + (a2 * (h5.1 126 1))))
        refine go_aload_n (x := 82) dX12_coax_79 rfl ?_
        refine go_getR (x := 133) dX12_coax_80 f12_166 sh82 (fun _ _ => rfl) (rf82_68 hR) ?_
        refine go_iconst (v := 1) dX12_coax_83 rfl ?_
        refine go_iload (x := (((sI h5 133 (((2 + (4 * a1)) + 1) : Int32).toNatClampNeg (v5 + (a2 * (h5.1 126 1)))).1 133 1) + a2)) dX12_coax_84 rfl ?_
        refine go_ldcw (v := 999999) dX12_coax_86 nX12_664 ?_
        refine go_icmp_le 98 dX12_coax_89 rfl (fun q => ?_) (fun q => ?_)
        · replace vc := vc.1 q
          refine go_iload (x := (((sI h5 133 (((2 + (4 * a1)) + 1) : Int32).toNatClampNeg (v5 + (a2 * (h5.1 126 1)))).1 133 1) + a2)) dX12_coax_98 rfl ?_
          refine go_iast dX12_coax_100 sh133 (by unfold vp_in; decide) ?_
          refine go_aload_n (x := 82) dX12_coax_101 rfl ?_
          refine go_iload_n (x := a1) dX12_coax_102 rfl ?_
          refine gvI1 MX12_trustOf dX12_coax_103 lX12_522 kX12_trustOf vX12_trustOf sh82 (by decide) rfl (Nat.le_of_ble_eq_true rfl) vc ?_
          intro v6 h6 vc
          obtain ⟨hR6, vc⟩ := vc
          replace hR := hR6.trans hR
          exact go_iret dX12_coax_106 rfl vc rfl (Nat.le_refl _) (Nat.le_refl _)
        · replace vc := vc.2 q
          refine go_ldcw (v := 999999) dX12_coax_92 nX12_664 ?_
          refine go_goto 100 dX12_coax_95 rfl ?_
          refine go_iast dX12_coax_100 sh133 (by unfold vp_in; decide) ?_
          refine go_aload_n (x := 82) dX12_coax_101 rfl ?_
          refine go_iload_n (x := a1) dX12_coax_102 rfl ?_
          refine gvI1 MX12_trustOf dX12_coax_103 lX12_522 kX12_trustOf vX12_trustOf sh82 (by decide) rfl (Nat.le_of_ble_eq_true rfl) vc ?_
          intro v7 h7 vc
          obtain ⟨hR7, vc⟩ := vc
          replace hR := hR7.trans hR
          exact go_iret dX12_coax_106 rfl vc rfl (Nat.le_refl _) (Nat.le_refl _)
      · replace vc := vc.2 q
        refine go_bipush (v := 99) dX12_coax_62 rfl ?_
        refine go_goto 68 dX12_coax_64 rfl ?_
        refine go_iast dX12_coax_68 sh133 vc.1 ?_
        have vc := vc.2
        show gg p l e s m args below meth c G (d + 1) MX12_coax Q 69 [some (.ref 82), some (.int a1), some (.int a2), some (.int (v5 + (a2 * (h5.1 126 1)))), none] [] (sI h5 133 (((2 + (4 * a1)) + 1) : Int32).toNatClampNeg 99)
        refine go_aload_n (x := 82) dX12_coax_69 rfl ?_
        refine go_getR (x := 133) dX12_coax_70 f12_166 sh82 (fun _ _ => rfl) (rf82_68 hR) ?_
        refine go_iconst (v := 1) dX12_coax_73 rfl ?_
        refine go_iald' (v := ((sI h5 133 (((2 + (4 * a1)) + 1) : Int32).toNatClampNeg 99).1 133 1)) dX12_coax_74 sh133 (by unfold vp_in; decide) rfl ?_
        refine go_iload_n (x := a2) dX12_coax_75 rfl ?_
        refine go_iadd dX12_coax_76 ?_
        refine go_istore dX12_coax_77 (Nat.le_of_ble_eq_true rfl) ?_
        show gg p l e s m args below meth c G (d + 1) MX12_coax Q 79 [some (.ref 82), some (.int a1), some (.int a2), some (.int (v5 + (a2 * (h5.1 126 1)))), some (.int (((sI h5 133 (((2 + (4 * a1)) + 1) : Int32).toNatClampNeg 99).1 133 1) + a2))] [] (sI h5 133 (((2 + (4 * a1)) + 1) : Int32).toNatClampNeg 99)
        refine go_aload_n (x := 82) dX12_coax_79 rfl ?_
        refine go_getR (x := 133) dX12_coax_80 f12_166 sh82 (fun _ _ => rfl) (rf82_68 hR) ?_
        refine go_iconst (v := 1) dX12_coax_83 rfl ?_
        refine go_iload (x := (((sI h5 133 (((2 + (4 * a1)) + 1) : Int32).toNatClampNeg 99).1 133 1) + a2)) dX12_coax_84 rfl ?_
        refine go_ldcw (v := 999999) dX12_coax_86 nX12_664 ?_
        refine go_icmp_le 98 dX12_coax_89 rfl (fun q => ?_) (fun q => ?_)
        · replace vc := vc.1 q
          refine go_iload (x := (((sI h5 133 (((2 + (4 * a1)) + 1) : Int32).toNatClampNeg 99).1 133 1) + a2)) dX12_coax_98 rfl ?_
          refine go_iast dX12_coax_100 sh133 (by unfold vp_in; decide) ?_
          refine go_aload_n (x := 82) dX12_coax_101 rfl ?_
          refine go_iload_n (x := a1) dX12_coax_102 rfl ?_
          refine gvI1 MX12_trustOf dX12_coax_103 lX12_522 kX12_trustOf vX12_trustOf sh82 (by decide) rfl (Nat.le_of_ble_eq_true rfl) vc ?_
          intro v8 h8 vc
          obtain ⟨hR8, vc⟩ := vc
          replace hR := hR8.trans hR
          exact go_iret dX12_coax_106 rfl vc rfl (Nat.le_refl _) (Nat.le_refl _)
        · replace vc := vc.2 q
          refine go_ldcw (v := 999999) dX12_coax_92 nX12_664 ?_
          refine go_goto 100 dX12_coax_95 rfl ?_
          refine go_iast dX12_coax_100 sh133 (by unfold vp_in; decide) ?_
          refine go_aload_n (x := 82) dX12_coax_101 rfl ?_
          refine go_iload_n (x := a1) dX12_coax_102 rfl ?_
          refine gvI1 MX12_trustOf dX12_coax_103 lX12_522 kX12_trustOf vX12_trustOf sh82 (by decide) rfl (Nat.le_of_ble_eq_true rfl) vc ?_
          intro v9 h9 vc
          obtain ⟨hR9, vc⟩ := vc
          replace hR := hR9.trans hR
          exact go_iret dX12_coax_106 rfl vc rfl (Nat.le_refl _) (Nat.le_refl _)
    · replace vc := vc.2 q
      refine go_aload_n (x := 82) dX12_coax_20 rfl ?_
      refine go_iconst (v := 3) dX12_coax_21 rfl ?_
      refine gvI1 MX12_refuses dX12_coax_22 lX12_656 kX12_refuses vX12_refuses sh82 (by decide) rfl (Nat.le_of_ble_eq_true rfl) vc ?_
      intro v10 h10 vc
      obtain ⟨hR10, vc⟩ := vc
      replace hR := hR10.trans hR
      exact go_iret dX12_coax_25 rfl vc rfl (Nat.le_refl _) (Nat.le_refl _)
