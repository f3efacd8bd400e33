set_option maxRecDepth 20000 in
theorem wX2_tellable_0 {p : Program} {l : Launch} {e : Env} {s : State} {m : MethodId} {args : Array Value} {below : List Frame} {meth : Method} {c : Code} {G : gG} {d : Nat} {Q : Option Value → gH → Prop} {h : gH} {lk sp : Nat} {cd : Option Nat}  (hR : h.2.2 = gRF lk sp cd) (hlk : lk = 30 ∨ lk = 67) (hsp : sp = 30 ∨ sp = 67)  (vc : Q (some (.int (if (h.1 7 2) < 40 then (h.1 7 2) else 40))) h) : gg p l e s m args below meth c G (d + 1) MX2_tellable Q 0 [some (.ref 6)] [] h := by
  refine go_bipush (v := 40) dX2_tellable_0 rfl ?_
  refine go_aload_n (x := 6) dX2_tellable_2 rfl ?_
  refine go_getR (x := 7) dX2_tellable_3 f2_11 sh6 (fun _ _ => rfl) (rf6_0 hR) ?_
  refine go_iconst (v := 2) dX2_tellable_6 rfl ?_
  refine go_iald' (v := (h.1 7 2)) dX2_tellable_7 sh7 (by unfold vp_in; decide) rfl ?_
  refine go_min dX2_tellable_8 lX2_36 (Nat.le_of_ble_eq_true rfl) ?_
  exact go_iret dX2_tellable_11 rfl vc rfl (Nat.le_refl _) (Nat.le_refl _)
set_option maxRecDepth 20000 in
theorem wX2_tell_0 {p : Program} {l : Launch} {e : Env} {s : State} {m : MethodId} {args : Array Value} {below : List Frame} {meth : Method} {c : Code} {G : gG} {d : Nat} {Q : Option Value → gH → Prop} {h : gH} {lk sp : Nat} {cd : Option Nat} {a1 : Int32} {a2 : Int32} (hR : h.2.2 = gRF lk sp cd) (hlk : lk = 30 ∨ lk = 67) (hsp : sp = 30 ∨ sp = 67)  (vc : gC l G d MX2_tellable [.ref 6] h (rI fun v1 h1 => h1.2.2 = (h).2.2 ∧ ((0 ≤ ((((h.1 7 2) - v1) + a1) - (((h.1 7 2) - v1) + a1) / 40 * 40) → (vp_in ((27 + ((((h.1 7 2) - v1) + a1) - (((h.1 7 2) - v1) + a1) / 40 * 40))) 67 ∧ ((a2 = 0 → Q (some (.int ((h1.1 7 ((27 + ((((h.1 7 2) - v1) + a1) - (((h.1 7 2) - v1) + a1) / 40 * 40)) : Int32).toNatClampNeg) >>> (10 &&& 31)))) h1) ∧ (a2 = 1 → Q (some (.int (((h1.1 7 ((27 + ((((h.1 7 2) - v1) + a1) - (((h.1 7 2) - v1) + a1) / 40 * 40)) : Int32).toNatClampNeg) >>> (7 &&& 31)) &&& 7))) h1) ∧ (a2 = 2 → Q (some (.int (((h1.1 7 ((27 + ((((h.1 7 2) - v1) + a1) - (((h.1 7 2) - v1) + a1) / 40 * 40)) : Int32).toNatClampNeg) >>> (1 &&& 31)) &&& 63))) h1) ∧ (a2 = 3 → Q (some (.int ((h1.1 7 ((27 + ((((h.1 7 2) - v1) + a1) - (((h.1 7 2) - v1) + a1) / 40 * 40)) : Int32).toNatClampNeg) &&& 1))) h1) ∧ (¬ a2 = 0 → ¬ a2 = 1 → ¬ a2 = 2 → ¬ a2 = 3 → Q (some (.int (-1))) h1)))) ∧ (¬ 0 ≤ ((((h.1 7 2) - v1) + a1) - (((h.1 7 2) - v1) + a1) / 40 * 40) → Q (some (.int (-1))) h1)))) : gg p l e s m args below meth c G (d + 1) MX2_tell Q 0 [some (.ref 6), some (.int a1), some (.int a2), none, none] [] h := by
  refine go_aload_n (x := 6) dX2_tell_0 rfl ?_
  refine go_getR (x := 7) dX2_tell_1 f2_11 sh6 (fun _ _ => rfl) (rf6_0 hR) ?_
  refine go_iconst (v := 2) dX2_tell_4 rfl ?_
  refine go_iald' (v := (h.1 7 2)) dX2_tell_5 sh7 (by unfold vp_in; decide) rfl ?_
  refine go_aload_n (x := 6) dX2_tell_6 rfl ?_
  refine gvI0 MX2_tellable dX2_tell_7 lX2_78 kX2_tellable vX2_tellable sh6 (by decide) rfl (Nat.le_of_ble_eq_true rfl) vc ?_
  intro v1 h1 vc
  obtain ⟨hR1, vc⟩ := vc
  replace hR := hR1.trans hR
  refine go_isub dX2_tell_10 ?_
  refine go_iload_n (x := a1) dX2_tell_11 rfl ?_
  refine go_iadd dX2_tell_12 ?_
  refine go_bipush (v := 40) dX2_tell_13 rfl ?_
  refine go_irem dX2_tell_15 (by decide) ?_
  refine go_istore_n dX2_tell_16 (Nat.le_of_ble_eq_true rfl) ?_
  show gg p l e s m args below meth c G (d + 1) MX2_tell Q 17 [some (.ref 6), some (.int a1), some (.int a2), some (.int ((((h.1 7 2) - v1) + a1) - (((h.1 7 2) - v1) + a1) / 40 * 40)), none] [] h1
  refine go_iload_n (x := ((((h.1 7 2) - v1) + a1) - (((h.1 7 2) - v1) + a1) / 40 * 40)) dX2_tell_17 rfl ?_
  refine go_if_ge 23 dX2_tell_18 rfl (fun q => ?_) (fun q => ?_)
  · replace vc := vc.1 q
    refine go_aload_n (x := 6) dX2_tell_23 rfl ?_
    refine go_getR (x := 7) dX2_tell_24 f2_11 sh6 (fun _ _ => rfl) (rf6_0 hR) ?_
    refine go_bipush (v := 27) dX2_tell_27 rfl ?_
    refine go_iload_n (x := ((((h.1 7 2) - v1) + a1) - (((h.1 7 2) - v1) + a1) / 40 * 40)) dX2_tell_29 rfl ?_
    refine go_iadd dX2_tell_30 ?_
    refine go_iald' (v := (h1.1 7 ((27 + ((((h.1 7 2) - v1) + a1) - (((h.1 7 2) - v1) + a1) / 40 * 40)) : Int32).toNatClampNeg)) dX2_tell_31 sh7 vc.1 rfl ?_
    have vc := vc.2
    refine go_istore dX2_tell_32 (Nat.le_of_ble_eq_true rfl) ?_
    show gg p l e s m args below meth c G (d + 1) MX2_tell Q 34 [some (.ref 6), some (.int a1), some (.int a2), some (.int ((((h.1 7 2) - v1) + a1) - (((h.1 7 2) - v1) + a1) / 40 * 40)), some (.int (h1.1 7 ((27 + ((((h.1 7 2) - v1) + a1) - (((h.1 7 2) - v1) + a1) / 40 * 40)) : Int32).toNatClampNeg))] [] h1
    refine go_iload_n (x := a2) dX2_tell_34 rfl ?_
    by_cases q0 : a2 = 0
    · refine go_tableIn (off := 29) 64 dX2_tell_35 (by rw [q0]; decide) (by rw [q0]; decide) (by rw [q0]; rfl) rfl ?_
      replace vc := vc.1 q0
      refine go_iload (x := (h1.1 7 ((27 + ((((h.1 7 2) - v1) + a1) - (((h.1 7 2) - v1) + a1) / 40 * 40)) : Int32).toNatClampNeg)) dX2_tell_64 rfl ?_
      refine go_bipush (v := 10) dX2_tell_66 rfl ?_
      refine go_ishr dX2_tell_68 ?_
      exact go_iret dX2_tell_69 rfl vc rfl (Nat.le_refl _) (Nat.le_refl _)
    by_cases q1 : a2 = 1
    · refine go_tableIn (off := 35) 70 dX2_tell_35 (by rw [q1]; decide) (by rw [q1]; decide) (by rw [q1]; rfl) rfl ?_
      replace vc := vc.2.1 q1
      refine go_iload (x := (h1.1 7 ((27 + ((((h.1 7 2) - v1) + a1) - (((h.1 7 2) - v1) + a1) / 40 * 40)) : Int32).toNatClampNeg)) dX2_tell_70 rfl ?_
      refine go_bipush (v := 7) dX2_tell_72 rfl ?_
      refine go_ishr dX2_tell_74 ?_
      refine go_bipush (v := 7) dX2_tell_75 rfl ?_
      refine go_iand dX2_tell_77 ?_
      exact go_iret dX2_tell_78 rfl vc rfl (Nat.le_refl _) (Nat.le_refl _)
    by_cases q2 : a2 = 2
    · refine go_tableIn (off := 44) 79 dX2_tell_35 (by rw [q2]; decide) (by rw [q2]; decide) (by rw [q2]; rfl) rfl ?_
      replace vc := vc.2.2.1 q2
      refine go_iload (x := (h1.1 7 ((27 + ((((h.1 7 2) - v1) + a1) - (((h.1 7 2) - v1) + a1) / 40 * 40)) : Int32).toNatClampNeg)) dX2_tell_79 rfl ?_
      refine go_iconst (v := 1) dX2_tell_81 rfl ?_
      refine go_ishr dX2_tell_82 ?_
      refine go_bipush (v := 63) dX2_tell_83 rfl ?_
      refine go_iand dX2_tell_85 ?_
      exact go_iret dX2_tell_86 rfl vc rfl (Nat.le_refl _) (Nat.le_refl _)
    by_cases q3 : a2 = 3
    · refine go_tableIn (off := 52) 87 dX2_tell_35 (by rw [q3]; decide) (by rw [q3]; decide) (by rw [q3]; rfl) rfl ?_
      replace vc := vc.2.2.2.1 q3
      refine go_iload (x := (h1.1 7 ((27 + ((((h.1 7 2) - v1) + a1) - (((h.1 7 2) - v1) + a1) / 40 * 40)) : Int32).toNatClampNeg)) dX2_tell_87 rfl ?_
      refine go_iconst (v := 1) dX2_tell_89 rfl ?_
      refine go_iand dX2_tell_90 ?_
      exact go_iret dX2_tell_91 rfl vc rfl (Nat.le_refl _) (Nat.le_refl _)
    replace vc := vc.2.2.2.2 q0 q1 q2 q3
    refine go_tableOut 92 dX2_tell_35 ?_ rfl ?_
    · have e0 : ¬ (a2).toInt = 0 := lv_neT q0 rfl; have e1 : ¬ (a2).toInt = 1 := lv_neT q1 rfl; have e2 : ¬ (a2).toInt = 2 := lv_neT q2 rfl; have e3 : ¬ (a2).toInt = 3 := lv_neT q3 rfl
      omega
    refine go_iconst (v := (-1)) dX2_tell_92 rfl ?_
    exact go_iret dX2_tell_93 rfl vc rfl (Nat.le_refl _) (Nat.le_refl _)
  · replace vc := vc.2 q
    refine go_iconst (v := (-1)) dX2_tell_21 rfl ?_
    exact go_iret dX2_tell_22 rfl vc rfl (Nat.le_refl _) (Nat.le_refl _)
set_option maxRecDepth 20000 in
theorem wX2_hourIn_0 {p : Program} {l : Launch} {e : Env} {s : State} {m : MethodId} {args : Array Value} {below : List Frame} {meth : Method} {c : Code} {G : gG} {d : Nat} {Q : Option Value → gH → Prop} {h : gH} {lk sp : Nat} {cd : Option Nat} {w1 n1 : Nat} (hR : h.2.2 = gRF lk sp cd) (hlk : lk = 30 ∨ lk = 67) (hsp : sp = 30 ∨ sp = 67) (hw1 : gSH[w1]? = some (20, n1)) (vc : ((5 ≤ (Int32.ofNat n1) → (vp_in 0 n1 ∧ (vp_in 1 n1 ∧ Q (some (.int (((h.1 w1 0) * 256) + (h.1 w1 1)))) h))) ∧ (¬ 5 ≤ (Int32.ofNat n1) → Q (some (.int 0)) h))) : gg p l e s m args below meth c G d MX2_hourIn Q 0 [some (.ref w1)] [] h := by
  refine go_aload_n (x := w1) dX2_hourIn_0 rfl ?_
  refine go_alen (v := (Int32.ofNat n1)) dX2_hourIn_1 hw1 (by decide) rfl ?_
  refine go_iconst (v := 5) dX2_hourIn_2 rfl ?_
  refine go_icmp_ge 10 dX2_hourIn_3 rfl (fun q => ?_) (fun q => ?_)
  · replace vc := vc.1 q
    refine go_aload_n (x := w1) dX2_hourIn_10 rfl ?_
    refine go_iconst (v := 0) dX2_hourIn_11 rfl ?_
    refine go_iald' (v := (h.1 w1 0)) dX2_hourIn_12 hw1 vc.1 rfl ?_
    have vc := vc.2
    refine go_sipush (v := 256) dX2_hourIn_13 rfl ?_
    refine go_imul dX2_hourIn_16 ?_
    refine go_aload_n (x := w1) dX2_hourIn_17 rfl ?_
    refine go_iconst (v := 1) dX2_hourIn_18 rfl ?_
    refine go_iald' (v := (h.1 w1 1)) dX2_hourIn_19 hw1 vc.1 rfl ?_
    have vc := vc.2
    refine go_iadd dX2_hourIn_20 ?_
    exact go_iret dX2_hourIn_21 rfl vc rfl (Nat.le_refl _) (Nat.le_refl _)
  · replace vc := vc.2 q
    refine go_iconst (v := 0) dX2_hourIn_6 rfl ?_
    refine go_goto 21 dX2_hourIn_7 rfl ?_
    exact go_iret dX2_hourIn_21 rfl vc rfl (Nat.le_refl _) (Nat.le_refl _)
set_option maxRecDepth 20000 in
theorem wX2_coinsIn_0 {p : Program} {l : Launch} {e : Env} {s : State} {m : MethodId} {args : Array Value} {below : List Frame} {meth : Method} {c : Code} {G : gG} {d : Nat} {Q : Option Value → gH → Prop} {h : gH} {lk sp : Nat} {cd : Option Nat} {w1 n1 : Nat} (hR : h.2.2 = gRF lk sp cd) (hlk : lk = 30 ∨ lk = 67) (hsp : sp = 30 ∨ sp = 67) (hw1 : gSH[w1]? = some (20, n1)) (vc : ((5 ≤ (Int32.ofNat n1) → (vp_in 2 n1 ∧ (vp_in 3 n1 ∧ (vp_in 4 n1 ∧ Q (some (.int (((((h.1 w1 2) * 256) + (h.1 w1 3)) * 256) + (h.1 w1 4)))) h)))) ∧ (¬ 5 ≤ (Int32.ofNat n1) → Q (some (.int 0)) h))) : gg p l e s m args below meth c G d MX2_coinsIn Q 0 [some (.ref w1)] [] h := by
  refine go_aload_n (x := w1) dX2_coinsIn_0 rfl ?_
  refine go_alen (v := (Int32.ofNat n1)) dX2_coinsIn_1 hw1 (by decide) rfl ?_
  refine go_iconst (v := 5) dX2_coinsIn_2 rfl ?_
  refine go_icmp_ge 10 dX2_coinsIn_3 rfl (fun q => ?_) (fun q => ?_)
  · replace vc := vc.1 q
    refine go_aload_n (x := w1) dX2_coinsIn_10 rfl ?_
    refine go_iconst (v := 2) dX2_coinsIn_11 rfl ?_
    refine go_iald' (v := (h.1 w1 2)) dX2_coinsIn_12 hw1 vc.1 rfl ?_
    have vc := vc.2
    refine go_sipush (v := 256) dX2_coinsIn_13 rfl ?_
    refine go_imul dX2_coinsIn_16 ?_
    refine go_aload_n (x := w1) dX2_coinsIn_17 rfl ?_
    refine go_iconst (v := 3) dX2_coinsIn_18 rfl ?_
    refine go_iald' (v := (h.1 w1 3)) dX2_coinsIn_19 hw1 vc.1 rfl ?_
    have vc := vc.2
    refine go_iadd dX2_coinsIn_20 ?_
    refine go_sipush (v := 256) dX2_coinsIn_21 rfl ?_
    refine go_imul dX2_coinsIn_24 ?_
    refine go_aload_n (x := w1) dX2_coinsIn_25 rfl ?_
    refine go_iconst (v := 4) dX2_coinsIn_26 rfl ?_
    refine go_iald' (v := (h.1 w1 4)) dX2_coinsIn_27 hw1 vc.1 rfl ?_
    have vc := vc.2
    refine go_iadd dX2_coinsIn_28 ?_
    exact go_iret dX2_coinsIn_29 rfl vc rfl (Nat.le_refl _) (Nat.le_refl _)
  · replace vc := vc.2 q
    refine go_iconst (v := 0) dX2_coinsIn_6 rfl ?_
    refine go_goto 29 dX2_coinsIn_7 rfl ?_
    exact go_iret dX2_coinsIn_29 rfl vc rfl (Nat.le_refl _) (Nat.le_refl _)
set_option maxRecDepth 20000 in
theorem wX2_take_0 {p : Program} {l : Launch} {e : Env} {s : State} {m : MethodId} {args : Array Value} {below : List Frame} {meth : Method} {c : Code} {G : gG} {d : Nat} {Q : Option Value → gH → Prop} {h : gH} {lk sp : Nat} {cd : Option Nat} {w1 n1 : Nat} (hR : h.2.2 = gRF lk sp cd) (hlk : lk = 30 ∨ lk = 67) (hsp : sp = 30 ∨ sp = 67) (hw1 : gSH[w1]? = some (20, n1)) (vc : gC l G d MX2_hourIn [.ref w1] h (rI fun v1 h1 => h1.2.2 = (h).2.2 ∧ gC l G d MX2_coinsIn [.ref w1] (sI h1 7 0 v1) (rI fun v2 h2 => h2.2.2 = ((sI h1 7 0 v1)).2.2 ∧ gg p l e s m args below meth c G (d + 1) MX2_take Q 22 [some (.ref 6), some (.ref w1), some (.int 0), none] [] (sI h2 7 1 v2)))) : gg p l e s m args below meth c G (d + 1) MX2_take Q 0 [some (.ref 6), some (.ref w1), none, none] [] h := by
  refine go_aload_n (x := 6) dX2_take_0 rfl ?_
  refine go_getR (x := 7) dX2_take_1 f2_11 sh6 (fun _ _ => rfl) (rf6_0 hR) ?_
  refine go_iconst (v := 0) dX2_take_4 rfl ?_
  refine go_aload_n (x := w1) dX2_take_5 rfl ?_
  refine gsI1 MX2_hourIn dX2_take_6 lX2_82 kX2_hourIn sX2_hourIn (Nat.le_of_ble_eq_true rfl) vc ?_
  intro v1 h1 vc
  obtain ⟨hR1, vc⟩ := vc
  replace hR := hR1.trans hR
  refine go_iast dX2_take_9 sh7 (by unfold vp_in; decide) ?_
  refine go_aload_n (x := 6) dX2_take_10 rfl ?_
  refine go_getR (x := 7) dX2_take_11 f2_11 sh6 (fun _ _ => rfl) (rf6_0 hR) ?_
  refine go_iconst (v := 1) dX2_take_14 rfl ?_
  refine go_aload_n (x := w1) dX2_take_15 rfl ?_
  refine gsI1 MX2_coinsIn dX2_take_16 lX2_86 kX2_coinsIn sX2_coinsIn (Nat.le_of_ble_eq_true rfl) vc ?_
  intro v2 h2 vc
  obtain ⟨hR2, vc⟩ := vc
  replace hR := hR2.trans hR
  refine go_iast dX2_take_19 sh7 (by unfold vp_in; decide) ?_
  refine go_iconst (v := 0) dX2_take_20 rfl ?_
  refine go_istore_n dX2_take_21 (Nat.le_of_ble_eq_true rfl) ?_
  show gg p l e s m args below meth c G (d + 1) MX2_take Q 22 [some (.ref 6), some (.ref w1), some (.int 0), none] [] (sI h2 7 1 v2)
  exact vc
set_option maxRecDepth 20000 in
theorem wX2_take_22 {p : Program} {l : Launch} {e : Env} {s : State} {m : MethodId} {args : Array Value} {below : List Frame} {meth : Method} {c : Code} {G : gG} {d : Nat} {Q : Option Value → gH → Prop} {h : gH} {lk sp : Nat} {cd : Option Nat} {w1 n1 : Nat} {x2 : Int32} (hR : h.2.2 = gRF lk sp cd) (hlk : lk = 30 ∨ lk = 67) (hsp : sp = 30 ∨ sp = 67) (hw1 : gSH[w1]? = some (20, n1)) (vc : (((h.1 6 3) ≤ x2 → Q none h) ∧ (¬ (h.1 6 3) ≤ x2 → gC l G d MX2_isBoat [.ref 6, .int x2] h (rI fun v1 h1 => h1.2.2 = (h).2.2 ∧ ((v1 = 0 → gg p l e s m args below meth c G (d + 1) MX2_take Q 22 [some (.ref 6), some (.ref w1), some (.int (x2 + 1)), none] [] h1) ∧ (¬ v1 = 0 → (((Int32.ofNat n1) ≤ ((5 + (4 * x2)) + 3) → gg p l e s m args below meth c G (d + 1) MX2_take Q 22 [some (.ref 6), some (.ref w1), some (.int (x2 + 1)), none] [] h1) ∧ (¬ (Int32.ofNat n1) ≤ ((5 + (4 * x2)) + 3) → (vp_in ((5 + (4 * x2))) n1 ∧ (vp_in ((3 + x2)) 67 ∧ (vp_in (((5 + (4 * x2)) + 1)) n1 ∧ (vp_in ((9 + x2)) 67 ∧ (vp_in (((5 + (4 * x2)) + 2)) n1 ∧ (vp_in ((15 + x2)) 67 ∧ (vp_in (((5 + (4 * x2)) + 3)) n1 ∧ (vp_in ((21 + x2)) 67 ∧ gg p l e s m args below meth c G (d + 1) MX2_take Q 22 [some (.ref 6), some (.ref w1), some (.int (x2 + 1)), none] [] (sI (sI (sI (sI h1 7 ((3 + x2) : Int32).toNatClampNeg (h1.1 w1 ((5 + (4 * x2)) : Int32).toNatClampNeg)) 7 ((9 + x2) : Int32).toNatClampNeg ((sI h1 7 ((3 + x2) : Int32).toNatClampNeg (h1.1 w1 ((5 + (4 * x2)) : Int32).toNatClampNeg)).1 w1 (((5 + (4 * x2)) + 1) : Int32).toNatClampNeg)) 7 ((15 + x2) : Int32).toNatClampNeg ((sI (sI h1 7 ((3 + x2) : Int32).toNatClampNeg (h1.1 w1 ((5 + (4 * x2)) : Int32).toNatClampNeg)) 7 ((9 + x2) : Int32).toNatClampNeg ((sI h1 7 ((3 + x2) : Int32).toNatClampNeg (h1.1 w1 ((5 + (4 * x2)) : Int32).toNatClampNeg)).1 w1 (((5 + (4 * x2)) + 1) : Int32).toNatClampNeg)).1 w1 (((5 + (4 * x2)) + 2) : Int32).toNatClampNeg)) 7 ((21 + x2) : Int32).toNatClampNeg (((sI (sI (sI h1 7 ((3 + x2) : Int32).toNatClampNeg (h1.1 w1 ((5 + (4 * x2)) : Int32).toNatClampNeg)) 7 ((9 + x2) : Int32).toNatClampNeg ((sI h1 7 ((3 + x2) : Int32).toNatClampNeg (h1.1 w1 ((5 + (4 * x2)) : Int32).toNatClampNeg)).1 w1 (((5 + (4 * x2)) + 1) : Int32).toNatClampNeg)) 7 ((15 + x2) : Int32).toNatClampNeg ((sI (sI h1 7 ((3 + x2) : Int32).toNatClampNeg (h1.1 w1 ((5 + (4 * x2)) : Int32).toNatClampNeg)) 7 ((9 + x2) : Int32).toNatClampNeg ((sI h1 7 ((3 + x2) : Int32).toNatClampNeg (h1.1 w1 ((5 + (4 * x2)) : Int32).toNatClampNeg)).1 w1 (((5 + (4 * x2)) + 1) : Int32).toNatClampNeg)).1 w1 (((5 + (4 * x2)) + 2) : Int32).toNatClampNeg)).1 w1 (((5 + (4 * x2)) + 3) : Int32).toNatClampNeg) - 1)))))))))))))))))) : gg p l e s m args below meth c G (d + 1) MX2_take Q 22 [some (.ref 6), some (.ref w1), some (.int x2), none] [] h := by
  refine go_iload_n (x := x2) dX2_take_22 rfl ?_
  refine go_aload_n (x := 6) dX2_take_23 rfl ?_
  refine go_getI' (v := (h.1 6 3)) dX2_take_24 f2_24 sh6 (fun _ _ => rfl) rfl ?_
  refine go_icmp_ge 113 dX2_take_27 rfl (fun q => ?_) (fun q => ?_)
  · replace vc := vc.1 q
    exact go_vret dX2_take_113 rfl vc rfl (Nat.le_refl _) (Nat.le_refl _)
  · replace vc := vc.2 q
    refine go_iconst (v := 5) dX2_take_30 rfl ?_
    refine go_iconst (v := 4) dX2_take_31 rfl ?_
    refine go_iload_n (x := x2) dX2_take_32 rfl ?_
    refine go_imul dX2_take_33 ?_
    refine go_iadd dX2_take_34 ?_
    refine go_istore_n dX2_take_35 (Nat.le_of_ble_eq_true rfl) ?_
    show gg p l e s m args below meth c G (d + 1) MX2_take Q 36 [some (.ref 6), some (.ref w1), some (.int x2), some (.int (5 + (4 * x2)))] [] h
    refine go_aload_n (x := 6) dX2_take_36 rfl ?_
    refine go_iload_n (x := x2) dX2_take_37 rfl ?_
    refine gvI1 MX2_isBoat dX2_take_38 lX2_54 kX2_isBoat vX2_isBoat sh6 (by decide) rfl (Nat.le_of_ble_eq_true rfl) vc ?_
    intro v1 h1 vc
    obtain ⟨hR1, vc⟩ := vc
    replace hR := hR1.trans hR
    refine go_if_eq 107 dX2_take_41 rfl (fun q => ?_) (fun q => ?_)
    · replace vc := vc.1 q
      refine go_iinc (x := x2) dX2_take_107 rfl ?_
      show gg p l e s m args below meth c G (d + 1) MX2_take Q 110 [some (.ref 6), some (.ref w1), some (.int (x2 + 1)), some (.int (5 + (4 * x2)))] [] h1
      refine go_goto 22 dX2_take_110 rfl ?_
      refine go_weak (ls' := [some (.ref 6), some (.ref w1), some (.int (x2 + 1)), none]) ?_ vc
      exact (⟨rfl, ⟨rfl, ⟨rfl, trivial⟩⟩⟩)
    · replace vc := vc.2 q
      refine go_iload_n (x := (5 + (4 * x2))) dX2_take_44 rfl ?_
      refine go_iconst (v := 3) dX2_take_45 rfl ?_
      refine go_iadd dX2_take_46 ?_
      refine go_aload_n (x := w1) dX2_take_47 rfl ?_
      refine go_alen (v := (Int32.ofNat n1)) dX2_take_48 hw1 (by decide) rfl ?_
      refine go_icmp_ge 107 dX2_take_49 rfl (fun q => ?_) (fun q => ?_)
      · replace vc := vc.1 q
        refine go_iinc (x := x2) dX2_take_107 rfl ?_
        show gg p l e s m args below meth c G (d + 1) MX2_take Q 110 [some (.ref 6), some (.ref w1), some (.int (x2 + 1)), some (.int (5 + (4 * x2)))] [] h1
        refine go_goto 22 dX2_take_110 rfl ?_
        refine go_weak (ls' := [some (.ref 6), some (.ref w1), some (.int (x2 + 1)), none]) ?_ vc
        exact (⟨rfl, ⟨rfl, ⟨rfl, trivial⟩⟩⟩)
      · replace vc := vc.2 q
        refine go_aload_n (x := 6) dX2_take_52 rfl ?_
        refine go_getR (x := 7) dX2_take_53 f2_11 sh6 (fun _ _ => rfl) (rf6_0 hR) ?_
        refine go_iconst (v := 3) dX2_take_56 rfl ?_
        refine go_iload_n (x := x2) dX2_take_57 rfl ?_
        refine go_iadd dX2_take_58 ?_
        refine go_aload_n (x := w1) dX2_take_59 rfl ?_
        refine go_iload_n (x := (5 + (4 * x2))) dX2_take_60 rfl ?_
        refine go_iald' (v := (h1.1 w1 ((5 + (4 * x2)) : Int32).toNatClampNeg)) dX2_take_61 hw1 vc.1 rfl ?_
        have vc := vc.2
        refine go_iast dX2_take_62 sh7 vc.1 ?_
        have vc := vc.2
        show gg p l e s m args below meth c G (d + 1) MX2_take Q 63 [some (.ref 6), some (.ref w1), some (.int x2), some (.int (5 + (4 * x2)))] [] (sI h1 7 ((3 + x2) : Int32).toNatClampNeg (h1.1 w1 ((5 + (4 * x2)) : Int32).toNatClampNeg))
        refine go_aload_n (x := 6) dX2_take_63 rfl ?_
        refine go_getR (x := 7) dX2_take_64 f2_11 sh6 (fun _ _ => rfl) (rf6_0 hR) ?_
        refine go_bipush (v := 9) dX2_take_67 rfl ?_
        refine go_iload_n (x := x2) dX2_take_69 rfl ?_
        refine go_iadd dX2_take_70 ?_
        refine go_aload_n (x := w1) dX2_take_71 rfl ?_
        refine go_iload_n (x := (5 + (4 * x2))) dX2_take_72 rfl ?_
        refine go_iconst (v := 1) dX2_take_73 rfl ?_
        refine go_iadd dX2_take_74 ?_
        refine go_iald' (v := ((sI h1 7 ((3 + x2) : Int32).toNatClampNeg (h1.1 w1 ((5 + (4 * x2)) : Int32).toNatClampNeg)).1 w1 (((5 + (4 * x2)) + 1) : Int32).toNatClampNeg)) dX2_take_75 hw1 vc.1 rfl ?_
        have vc := vc.2
        refine go_iast dX2_take_76 sh7 vc.1 ?_
        have vc := vc.2
        show gg p l e s m args below meth c G (d + 1) MX2_take Q 77 [some (.ref 6), some (.ref w1), some (.int x2), some (.int (5 + (4 * x2)))] [] (sI (sI h1 7 ((3 + x2) : Int32).toNatClampNeg (h1.1 w1 ((5 + (4 * x2)) : Int32).toNatClampNeg)) 7 ((9 + x2) : Int32).toNatClampNeg ((sI h1 7 ((3 + x2) : Int32).toNatClampNeg (h1.1 w1 ((5 + (4 * x2)) : Int32).toNatClampNeg)).1 w1 (((5 + (4 * x2)) + 1) : Int32).toNatClampNeg))
        refine go_aload_n (x := 6) dX2_take_77 rfl ?_
        refine go_getR (x := 7) dX2_take_78 f2_11 sh6 (fun _ _ => rfl) (rf6_0 hR) ?_
        refine go_bipush (v := 15) dX2_take_81 rfl ?_
        refine go_iload_n (x := x2) dX2_take_83 rfl ?_
        refine go_iadd dX2_take_84 ?_
        refine go_aload_n (x := w1) dX2_take_85 rfl ?_
        refine go_iload_n (x := (5 + (4 * x2))) dX2_take_86 rfl ?_
        refine go_iconst (v := 2) dX2_take_87 rfl ?_
        refine go_iadd dX2_take_88 ?_
        refine go_iald' (v := ((sI (sI h1 7 ((3 + x2) : Int32).toNatClampNeg (h1.1 w1 ((5 + (4 * x2)) : Int32).toNatClampNeg)) 7 ((9 + x2) : Int32).toNatClampNeg ((sI h1 7 ((3 + x2) : Int32).toNatClampNeg (h1.1 w1 ((5 + (4 * x2)) : Int32).toNatClampNeg)).1 w1 (((5 + (4 * x2)) + 1) : Int32).toNatClampNeg)).1 w1 (((5 + (4 * x2)) + 2) : Int32).toNatClampNeg)) dX2_take_89 hw1 vc.1 rfl ?_
        have vc := vc.2
        refine go_iast dX2_take_90 sh7 vc.1 ?_
        have vc := vc.2
        show gg p l e s m args below meth c G (d + 1) MX2_take Q 91 [some (.ref 6), some (.ref w1), some (.int x2), some (.int (5 + (4 * x2)))] [] (sI (sI (sI h1 7 ((3 + x2) : Int32).toNatClampNeg (h1.1 w1 ((5 + (4 * x2)) : Int32).toNatClampNeg)) 7 ((9 + x2) : Int32).toNatClampNeg ((sI h1 7 ((3 + x2) : Int32).toNatClampNeg (h1.1 w1 ((5 + (4 * x2)) : Int32).toNatClampNeg)).1 w1 (((5 + (4 * x2)) + 1) : Int32).toNatClampNeg)) 7 ((15 + x2) : Int32).toNatClampNeg ((sI (sI h1 7 ((3 + x2) : Int32).toNatClampNeg (h1.1 w1 ((5 + (4 * x2)) : Int32).toNatClampNeg)) 7 ((9 + x2) : Int32).toNatClampNeg ((sI h1 7 ((3 + x2) : Int32).toNatClampNeg (h1.1 w1 ((5 + (4 * x2)) : Int32).toNatClampNeg)).1 w1 (((5 + (4 * x2)) + 1) : Int32).toNatClampNeg)).1 w1 (((5 + (4 * x2)) + 2) : Int32).toNatClampNeg))
        refine go_aload_n (x := 6) dX2_take_91 rfl ?_
        refine go_getR (x := 7) dX2_take_92 f2_11 sh6 (fun _ _ => rfl) (rf6_0 hR) ?_
        refine go_bipush (v := 21) dX2_take_95 rfl ?_
        refine go_iload_n (x := x2) dX2_take_97 rfl ?_
        refine go_iadd dX2_take_98 ?_
        refine go_aload_n (x := w1) dX2_take_99 rfl ?_
        refine go_iload_n (x := (5 + (4 * x2))) dX2_take_100 rfl ?_
        refine go_iconst (v := 3) dX2_take_101 rfl ?_
        refine go_iadd dX2_take_102 ?_
        refine go_iald' (v := ((sI (sI (sI h1 7 ((3 + x2) : Int32).toNatClampNeg (h1.1 w1 ((5 + (4 * x2)) : Int32).toNatClampNeg)) 7 ((9 + x2) : Int32).toNatClampNeg ((sI h1 7 ((3 + x2) : Int32).toNatClampNeg (h1.1 w1 ((5 + (4 * x2)) : Int32).toNatClampNeg)).1 w1 (((5 + (4 * x2)) + 1) : Int32).toNatClampNeg)) 7 ((15 + x2) : Int32).toNatClampNeg ((sI (sI h1 7 ((3 + x2) : Int32).toNatClampNeg (h1.1 w1 ((5 + (4 * x2)) : Int32).toNatClampNeg)) 7 ((9 + x2) : Int32).toNatClampNeg ((sI h1 7 ((3 + x2) : Int32).toNatClampNeg (h1.1 w1 ((5 + (4 * x2)) : Int32).toNatClampNeg)).1 w1 (((5 + (4 * x2)) + 1) : Int32).toNatClampNeg)).1 w1 (((5 + (4 * x2)) + 2) : Int32).toNatClampNeg)).1 w1 (((5 + (4 * x2)) + 3) : Int32).toNatClampNeg)) dX2_take_103 hw1 vc.1 rfl ?_
        have vc := vc.2
        refine go_iconst (v := 1) dX2_take_104 rfl ?_
        refine go_isub dX2_take_105 ?_
        refine go_iast dX2_take_106 sh7 vc.1 ?_
        have vc := vc.2
        show gg p l e s m args below meth c G (d + 1) MX2_take Q 107 [some (.ref 6), some (.ref w1), some (.int x2), some (.int (5 + (4 * x2)))] [] (sI (sI (sI (sI h1 7 ((3 + x2) : Int32).toNatClampNeg (h1.1 w1 ((5 + (4 * x2)) : Int32).toNatClampNeg)) 7 ((9 + x2) : Int32).toNatClampNeg ((sI h1 7 ((3 + x2) : Int32).toNatClampNeg (h1.1 w1 ((5 + (4 * x2)) : Int32).toNatClampNeg)).1 w1 (((5 + (4 * x2)) + 1) : Int32).toNatClampNeg)) 7 ((15 + x2) : Int32).toNatClampNeg ((sI (sI h1 7 ((3 + x2) : Int32).toNatClampNeg (h1.1 w1 ((5 + (4 * x2)) : Int32).toNatClampNeg)) 7 ((9 + x2) : Int32).toNatClampNeg ((sI h1 7 ((3 + x2) : Int32).toNatClampNeg (h1.1 w1 ((5 + (4 * x2)) : Int32).toNatClampNeg)).1 w1 (((5 + (4 * x2)) + 1) : Int32).toNatClampNeg)).1 w1 (((5 + (4 * x2)) + 2) : Int32).toNatClampNeg)) 7 ((21 + x2) : Int32).toNatClampNeg (((sI (sI (sI h1 7 ((3 + x2) : Int32).toNatClampNeg (h1.1 w1 ((5 + (4 * x2)) : Int32).toNatClampNeg)) 7 ((9 + x2) : Int32).toNatClampNeg ((sI h1 7 ((3 + x2) : Int32).toNatClampNeg (h1.1 w1 ((5 + (4 * x2)) : Int32).toNatClampNeg)).1 w1 (((5 + (4 * x2)) + 1) : Int32).toNatClampNeg)) 7 ((15 + x2) : Int32).toNatClampNeg ((sI (sI h1 7 ((3 + x2) : Int32).toNatClampNeg (h1.1 w1 ((5 + (4 * x2)) : Int32).toNatClampNeg)) 7 ((9 + x2) : Int32).toNatClampNeg ((sI h1 7 ((3 + x2) : Int32).toNatClampNeg (h1.1 w1 ((5 + (4 * x2)) : Int32).toNatClampNeg)).1 w1 (((5 + (4 * x2)) + 1) : Int32).toNatClampNeg)).1 w1 (((5 + (4 * x2)) + 2) : Int32).toNatClampNeg)).1 w1 (((5 + (4 * x2)) + 3) : Int32).toNatClampNeg) - 1))
        refine go_iinc (x := x2) dX2_take_107 rfl ?_
        show gg p l e s m args below meth c G (d + 1) MX2_take Q 110 [some (.ref 6), some (.ref w1), some (.int (x2 + 1)), some (.int (5 + (4 * x2)))] [] (sI (sI (sI (sI h1 7 ((3 + x2) : Int32).toNatClampNeg (h1.1 w1 ((5 + (4 * x2)) : Int32).toNatClampNeg)) 7 ((9 + x2) : Int32).toNatClampNeg ((sI h1 7 ((3 + x2) : Int32).toNatClampNeg (h1.1 w1 ((5 + (4 * x2)) : Int32).toNatClampNeg)).1 w1 (((5 + (4 * x2)) + 1) : Int32).toNatClampNeg)) 7 ((15 + x2) : Int32).toNatClampNeg ((sI (sI h1 7 ((3 + x2) : Int32).toNatClampNeg (h1.1 w1 ((5 + (4 * x2)) : Int32).toNatClampNeg)) 7 ((9 + x2) : Int32).toNatClampNeg ((sI h1 7 ((3 + x2) : Int32).toNatClampNeg (h1.1 w1 ((5 + (4 * x2)) : Int32).toNatClampNeg)).1 w1 (((5 + (4 * x2)) + 1) : Int32).toNatClampNeg)).1 w1 (((5 + (4 * x2)) + 2) : Int32).toNatClampNeg)) 7 ((21 + x2) : Int32).toNatClampNeg (((sI (sI (sI h1 7 ((3 + x2) : Int32).toNatClampNeg (h1.1 w1 ((5 + (4 * x2)) : Int32).toNatClampNeg)) 7 ((9 + x2) : Int32).toNatClampNeg ((sI h1 7 ((3 + x2) : Int32).toNatClampNeg (h1.1 w1 ((5 + (4 * x2)) : Int32).toNatClampNeg)).1 w1 (((5 + (4 * x2)) + 1) : Int32).toNatClampNeg)) 7 ((15 + x2) : Int32).toNatClampNeg ((sI (sI h1 7 ((3 + x2) : Int32).toNatClampNeg (h1.1 w1 ((5 + (4 * x2)) : Int32).toNatClampNeg)) 7 ((9 + x2) : Int32).toNatClampNeg ((sI h1 7 ((3 + x2) : Int32).toNatClampNeg (h1.1 w1 ((5 + (4 * x2)) : Int32).toNatClampNeg)).1 w1 (((5 + (4 * x2)) + 1) : Int32).toNatClampNeg)).1 w1 (((5 + (4 * x2)) + 2) : Int32).toNatClampNeg)).1 w1 (((5 + (4 * x2)) + 3) : Int32).toNatClampNeg) - 1))
        refine go_goto 22 dX2_take_110 rfl ?_
        refine go_weak (ls' := [some (.ref 6), some (.ref w1), some (.int (x2 + 1)), none]) ?_ vc
        exact (⟨rfl, ⟨rfl, ⟨rfl, trivial⟩⟩⟩)
set_option maxRecDepth 20000 in
theorem wX6_reckon_0 {p : Program} {l : Launch} {e : Env} {s : State} {m : MethodId} {args : Array Value} {below : List Frame} {meth : Method} {c : Code} {G : gG} {d : Nat} {Q : Option Value → gH → Prop} {h : gH} {lk sp : Nat} {cd : Option Nat} {cc : Nat} {a2 : Int32} (hR : h.2.2 = gRF lk sp cd) (hlk : lk = 30 ∨ lk = 67) (hsp : sp = 30 ∨ sp = 67) (hcc : cc = 41 ∨ cc = 61 ∨ cc = 78) (vc : gC l G d MX0_isTold [.ref cc, .int a2] (sI h 45 3 0) (rI fun v1 h1 => h1.2.2 = ((sI h 45 3 0)).2.2 ∧ ((¬ v1 = 0 → (vp_in a2 3 ∧ gg p l e s m args below meth c G (d + 1) MX6_reckon Q 22 [some (.ref 45), some (.ref cc), some (.int a2), some (.int (h1.1 (cc + 2) a2.toNatClampNeg)), none] [] h1)) ∧ (v1 = 0 → Q (some (.int 0)) h1)))) : gg p l e s m args below meth c G (d + 1) MX6_reckon Q 0 [some (.ref 45), some (.ref cc), some (.int a2), none, none] [] h := by
  refine go_aload_n (x := 45) dX6_reckon_0 rfl ?_
  refine go_iconst (v := 0) dX6_reckon_1 rfl ?_
  refine go_putI dX6_reckon_2 f6_21 sh45 rfl rfl ?_
  refine go_aload_n (x := cc) dX6_reckon_5 rfl ?_
  refine go_iload_n (x := a2) dX6_reckon_6 rfl ?_
  refine gvI1 MX0_isTold dX6_reckon_7 lX6_25 kX0_isTold vX0_isTold (scx hcc) (by decide) rfl (Nat.le_of_ble_eq_true rfl) vc ?_
  intro v1 h1 vc
  obtain ⟨hR1, vc⟩ := vc
  replace hR := hR1.trans hR
  refine go_if_ne 15 dX6_reckon_10 rfl (fun q => ?_) (fun q => ?_)
  · replace vc := vc.1 q
    refine go_aload_n (x := cc) dX6_reckon_15 rfl ?_
    refine go_getR (x := (cc + 2)) dX6_reckon_16 f6_31 (scx hcc) (fun _ _ => rfl) (rc_s hR hcc (by decide)) ?_
    refine go_iload_n (x := a2) dX6_reckon_19 rfl ?_
    refine go_iald' (v := (h1.1 (cc + 2) a2.toNatClampNeg)) dX6_reckon_20 (sc2 hcc) vc.1 rfl ?_
    have vc := vc.2
    refine go_istore_n dX6_reckon_21 (Nat.le_of_ble_eq_true rfl) ?_
    show gg p l e s m args below meth c G (d + 1) MX6_reckon Q 22 [some (.ref 45), some (.ref cc), some (.int a2), some (.int (h1.1 (cc + 2) a2.toNatClampNeg)), none] [] h1
    exact vc
  · replace vc := vc.2 q
    refine go_iconst (v := 0) dX6_reckon_13 rfl ?_
    exact go_iret dX6_reckon_14 rfl vc rfl (Nat.le_refl _) (Nat.le_refl _)
set_option maxRecDepth 20000 in
theorem wX6_reckon_22 {p : Program} {l : Launch} {e : Env} {s : State} {m : MethodId} {args : Array Value} {below : List Frame} {meth : Method} {c : Code} {G : gG} {d : Nat} {Q : Option Value → gH → Prop} {h : gH} {lk sp : Nat} {cd : Option Nat} {cc : Nat} {x2 : Int32} {x3 : Int32} (hR : h.2.2 = gRF lk sp cd) (hlk : lk = 30 ∨ lk = 67) (hsp : sp = 30 ∨ sp = 67) (hcc : cc = 41 ∨ cc = 61 ∨ cc = 78) (vc : ((x3 < 0 → gC l G d MX6_pop [.ref 45] h (rI fun v1 h1 => h1.2.2 = (h).2.2 ∧ Q (some (.int v1)) h1)) ∧ (¬ x3 < 0 → (vp_in x2 3 ∧ (((h.1 (cc + 3) x2.toNatClampNeg) ≤ x3 → gC l G d MX6_pop [.ref 45] h (rI fun v2 h2 => h2.2.2 = (h).2.2 ∧ Q (some (.int v2)) h2)) ∧ (¬ (h.1 (cc + 3) x2.toNatClampNeg) ≤ x3 → ((1600 ≤ x3 → gC l G d MX6_pop [.ref 45] h (rI fun v3 h3 => h3.2.2 = (h).2.2 ∧ Q (some (.int v3)) h3)) ∧ (¬ 1600 ≤ x3 → (vp_in x3 1600 ∧ (((h.1 (cc + 1) x3.toNatClampNeg) < 0 → gC l G d MX6_apply [.ref 45, .int ((h.1 (cc + 1) x3.toNatClampNeg) ^^^ (-1))] h (rV fun h4 => h4.2.2 = (h).2.2 ∧ gg p l e s m args below meth c G (d + 1) MX6_reckon Q 22 [some (.ref 45), some (.ref cc), some (.int x2), some (.int (x3 + 1)), none] [] h4)) ∧ (¬ (h.1 (cc + 1) x3.toNatClampNeg) < 0 → gC l G d MX6_push [.ref 45, .int (h.1 (cc + 1) x3.toNatClampNeg)] h (rV fun h5 => h5.2.2 = (h).2.2 ∧ gg p l e s m args below meth c G (d + 1) MX6_reckon Q 22 [some (.ref 45), some (.ref cc), some (.int x2), some (.int (x3 + 1)), none] [] h5)))))))))))) : gg p l e s m args below meth c G (d + 1) MX6_reckon Q 22 [some (.ref 45), some (.ref cc), some (.int x2), some (.int x3), none] [] h := by
  refine go_iload_n (x := x3) dX6_reckon_22 rfl ?_
  refine go_if_lt 79 dX6_reckon_23 rfl (fun q => ?_) (fun q => ?_)
  · replace vc := vc.1 q
    refine go_aload_n (x := 45) dX6_reckon_79 rfl ?_
    refine gvI0 MX6_pop dX6_reckon_80 lX6_47 kX6_pop vX6_pop sh45 (by decide) rfl (Nat.le_of_ble_eq_true rfl) vc ?_
    intro v1 h1 vc
    obtain ⟨hR1, vc⟩ := vc
    replace hR := hR1.trans hR
    exact go_iret dX6_reckon_83 rfl vc rfl (Nat.le_refl _) (Nat.le_refl _)
  · replace vc := vc.2 q
    refine go_iload_n (x := x3) dX6_reckon_26 rfl ?_
    refine go_aload_n (x := cc) dX6_reckon_27 rfl ?_
    refine go_getR (x := (cc + 3)) dX6_reckon_28 f6_34 (scx hcc) (fun _ _ => rfl) (rc_s hR hcc (by decide)) ?_
    refine go_iload_n (x := x2) dX6_reckon_31 rfl ?_
    refine go_iald' (v := (h.1 (cc + 3) x2.toNatClampNeg)) dX6_reckon_32 (sc3 hcc) vc.1 rfl ?_
    have vc := vc.2
    refine go_icmp_ge 79 dX6_reckon_33 rfl (fun q => ?_) (fun q => ?_)
    · replace vc := vc.1 q
      refine go_aload_n (x := 45) dX6_reckon_79 rfl ?_
      refine gvI0 MX6_pop dX6_reckon_80 lX6_47 kX6_pop vX6_pop sh45 (by decide) rfl (Nat.le_of_ble_eq_true rfl) vc ?_
      intro v2 h2 vc
      obtain ⟨hR2, vc⟩ := vc
      replace hR := hR2.trans hR
      exact go_iret dX6_reckon_83 rfl vc rfl (Nat.le_refl _) (Nat.le_refl _)
    · replace vc := vc.2 q
      refine go_iload_n (x := x3) dX6_reckon_36 rfl ?_
      refine go_sipush (v := 1600) dX6_reckon_37 rfl ?_
      refine go_icmp_ge 79 dX6_reckon_40 rfl (fun q => ?_) (fun q => ?_)
      · replace vc := vc.1 q
        refine go_aload_n (x := 45) dX6_reckon_79 rfl ?_
        refine gvI0 MX6_pop dX6_reckon_80 lX6_47 kX6_pop vX6_pop sh45 (by decide) rfl (Nat.le_of_ble_eq_true rfl) vc ?_
        intro v3 h3 vc
        obtain ⟨hR3, vc⟩ := vc
        replace hR := hR3.trans hR
        exact go_iret dX6_reckon_83 rfl vc rfl (Nat.le_refl _) (Nat.le_refl _)
      · replace vc := vc.2 q
        refine go_aload_n (x := cc) dX6_reckon_43 rfl ?_
        refine go_getR (x := (cc + 1)) dX6_reckon_44 f6_37 (scx hcc) (fun _ _ => rfl) (rc_s hR hcc (by decide)) ?_
        refine go_iload_n (x := x3) dX6_reckon_47 rfl ?_
        refine go_iald' (v := (h.1 (cc + 1) x3.toNatClampNeg)) dX6_reckon_48 (sc1 hcc) vc.1 rfl ?_
        have vc := vc.2
        refine go_istore dX6_reckon_49 (Nat.le_of_ble_eq_true rfl) ?_
        show gg p l e s m args below meth c G (d + 1) MX6_reckon Q 51 [some (.ref 45), some (.ref cc), some (.int x2), some (.int x3), some (.int (h.1 (cc + 1) x3.toNatClampNeg))] [] h
        refine go_iload (x := (h.1 (cc + 1) x3.toNatClampNeg)) dX6_reckon_51 rfl ?_
        refine go_if_lt 65 dX6_reckon_53 rfl (fun q => ?_) (fun q => ?_)
        · replace vc := vc.1 q
          refine go_aload_n (x := 45) dX6_reckon_65 rfl ?_
          refine go_iload (x := (h.1 (cc + 1) x3.toNatClampNeg)) dX6_reckon_66 rfl ?_
          refine go_iconst (v := (-1)) dX6_reckon_68 rfl ?_
          refine go_ixor dX6_reckon_69 ?_
          refine gvV1 MX6_apply dX6_reckon_70 lX6_44 kX6_apply vX6_apply sh45 (by decide) rfl (Nat.le_of_ble_eq_true rfl) vc ?_
          intro h4 vc
          obtain ⟨hR4, vc⟩ := vc
          replace hR := hR4.trans hR
          refine go_iinc (x := x3) dX6_reckon_73 rfl ?_
          show gg p l e s m args below meth c G (d + 1) MX6_reckon Q 76 [some (.ref 45), some (.ref cc), some (.int x2), some (.int (x3 + 1)), some (.int (h.1 (cc + 1) x3.toNatClampNeg))] [] h4
          refine go_goto 22 dX6_reckon_76 rfl ?_
          refine go_weak (ls' := [some (.ref 45), some (.ref cc), some (.int x2), some (.int (x3 + 1)), none]) ?_ vc
          exact (⟨rfl, ⟨rfl, ⟨rfl, ⟨rfl, trivial⟩⟩⟩⟩)
        · replace vc := vc.2 q
          refine go_aload_n (x := 45) dX6_reckon_56 rfl ?_
          refine go_iload (x := (h.1 (cc + 1) x3.toNatClampNeg)) dX6_reckon_57 rfl ?_
          refine gvV1 MX6_push dX6_reckon_59 lX6_40 kX6_push vX6_push sh45 (by decide) rfl (Nat.le_of_ble_eq_true rfl) vc ?_
          intro h5 vc
          obtain ⟨hR5, vc⟩ := vc
          replace hR := hR5.trans hR
          refine go_goto 73 dX6_reckon_62 rfl ?_
          refine go_iinc (x := x3) dX6_reckon_73 rfl ?_
          show gg p l e s m args below meth c G (d + 1) MX6_reckon Q 76 [some (.ref 45), some (.ref cc), some (.int x2), some (.int (x3 + 1)), some (.int (h.1 (cc + 1) x3.toNatClampNeg))] [] h5
          refine go_goto 22 dX6_reckon_76 rfl ?_
          refine go_weak (ls' := [some (.ref 45), some (.ref cc), some (.int x2), some (.int (x3 + 1)), none]) ?_ vc
          exact (⟨rfl, ⟨rfl, ⟨rfl, ⟨rfl, trivial⟩⟩⟩⟩)
set_option maxRecDepth 20000 in
theorem wX6_apply_0 {p : Program} {l : Launch} {e : Env} {s : State} {m : MethodId} {args : Array Value} {below : List Frame} {meth : Method} {c : Code} {G : gG} {d : Nat} {Q : Option Value → gH → Prop} {h : gH} {lk sp : Nat} {cd : Option Nat} {a1 : Int32} (hR : h.2.2 = gRF lk sp cd) (hlk : lk = 30 ∨ lk = 67) (hsp : sp = 30 ∨ sp = 67)  (vc : ((a1 < 0 → gC l G d MX6_pop [.ref 45] h (rI fun v1 h1 => h1.2.2 = (h).2.2 ∧ ((¬ a1 = 27 → ((¬ a1 = 30 → gC l G d MX6_pop [.ref 45] h1 (rI fun v2 h2 => h2.2.2 = (h1).2.2 ∧ gC l G d MX6_join [.int a1, .int v2, .int v1] h2 (rI fun v3 h3 => h3.2.2 = (h2).2.2 ∧ gC l G d MX6_push [.ref 45, .int v3] h3 (rV fun h4 => h4.2.2 = (h3).2.2 ∧ Q none h4)))) ∧ (a1 = 30 → ((¬ v1 = 0 → gC l G d MX6_push [.ref 45, .int 0] h1 (rV fun h5 => h5.2.2 = (h1).2.2 ∧ Q none h5)) ∧ (v1 = 0 → gC l G d MX6_push [.ref 45, .int 1] h1 (rV fun h6 => h6.2.2 = (h1).2.2 ∧ Q none h6)))))) ∧ (a1 = 27 → gC l G d MX6_crowdOf [.ref 45, .int v1] h1 (rI fun v7 h7 => h7.2.2 = (h1).2.2 ∧ gC l G d MX6_push [.ref 45, .int v7] h7 (rV fun h8 => h8.2.2 = (h7).2.2 ∧ Q none h8)))))) ∧ (¬ a1 < 0 → ((27 ≤ a1 → gC l G d MX6_pop [.ref 45] h (rI fun v9 h9 => h9.2.2 = (h).2.2 ∧ ((¬ a1 = 27 → ((¬ a1 = 30 → gC l G d MX6_pop [.ref 45] h9 (rI fun v10 h10 => h10.2.2 = (h9).2.2 ∧ gC l G d MX6_join [.int a1, .int v10, .int v9] h10 (rI fun v11 h11 => h11.2.2 = (h10).2.2 ∧ gC l G d MX6_push [.ref 45, .int v11] h11 (rV fun h12 => h12.2.2 = (h11).2.2 ∧ Q none h12)))) ∧ (a1 = 30 → ((¬ v9 = 0 → gC l G d MX6_push [.ref 45, .int 0] h9 (rV fun h13 => h13.2.2 = (h9).2.2 ∧ Q none h13)) ∧ (v9 = 0 → gC l G d MX6_push [.ref 45, .int 1] h9 (rV fun h14 => h14.2.2 = (h9).2.2 ∧ Q none h14)))))) ∧ (a1 = 27 → gC l G d MX6_crowdOf [.ref 45, .int v9] h9 (rI fun v15 h15 => h15.2.2 = (h9).2.2 ∧ gC l G d MX6_push [.ref 45, .int v15] h15 (rV fun h16 => h16.2.2 = (h15).2.2 ∧ Q none h16)))))) ∧ (¬ 27 ≤ a1 → (vp_in a1 40 ∧ gC l G d MX6_push [.ref 45, .int (h.1 46 a1.toNatClampNeg)] h (rV fun h17 => h17.2.2 = (h).2.2 ∧ Q none h17))))))) : gg p l e s m args below meth c G (d + 1) MX6_apply Q 0 [some (.ref 45), some (.int a1), none] [] h := by
  refine go_iload_n (x := a1) dX6_apply_0 rfl ?_
  refine go_if_lt 21 dX6_apply_1 rfl (fun q => ?_) (fun q => ?_)
  · replace vc := vc.1 q
    refine go_aload_n (x := 45) dX6_apply_21 rfl ?_
    refine gvI0 MX6_pop dX6_apply_22 lX6_47 kX6_pop vX6_pop sh45 (by decide) rfl (Nat.le_of_ble_eq_true rfl) vc ?_
    intro v1 h1 vc
    obtain ⟨hR1, vc⟩ := vc
    replace hR := hR1.trans hR
    refine go_istore_n dX6_apply_25 (Nat.le_of_ble_eq_true rfl) ?_
    show gg p l e s m args below meth c G (d + 1) MX6_apply Q 26 [some (.ref 45), some (.int a1), some (.int v1)] [] h1
    refine go_iload_n (x := a1) dX6_apply_26 rfl ?_
    refine go_bipush (v := 27) dX6_apply_27 rfl ?_
    refine go_icmp_ne 44 dX6_apply_29 rfl (fun q => ?_) (fun q => ?_)
    · replace vc := vc.1 q
      refine go_iload_n (x := a1) dX6_apply_44 rfl ?_
      refine go_bipush (v := 30) dX6_apply_45 rfl ?_
      refine go_icmp_ne 66 dX6_apply_47 rfl (fun q => ?_) (fun q => ?_)
      · replace vc := vc.1 q
        refine go_aload_n (x := 45) dX6_apply_66 rfl ?_
        refine go_iload_n (x := a1) dX6_apply_67 rfl ?_
        refine go_aload_n (x := 45) dX6_apply_68 rfl ?_
        refine gvI0 MX6_pop dX6_apply_69 lX6_47 kX6_pop vX6_pop sh45 (by decide) rfl (Nat.le_of_ble_eq_true rfl) vc ?_
        intro v2 h2 vc
        obtain ⟨hR2, vc⟩ := vc
        replace hR := hR2.trans hR
        refine go_iload_n (x := v1) dX6_apply_72 rfl ?_
        refine gsI3 MX6_join dX6_apply_73 lX6_55 kX6_join sX6_join (Nat.le_of_ble_eq_true rfl) vc ?_
        intro v3 h3 vc
        obtain ⟨hR3, vc⟩ := vc
        replace hR := hR3.trans hR
        refine gvV1 MX6_push dX6_apply_76 lX6_40 kX6_push vX6_push sh45 (by decide) rfl (Nat.le_of_ble_eq_true rfl) vc ?_
        intro h4 vc
        obtain ⟨hR4, vc⟩ := vc
        replace hR := hR4.trans hR
        exact go_vret dX6_apply_79 rfl vc rfl (Nat.le_refl _) (Nat.le_refl _)
      · replace vc := vc.2 q
        refine go_aload_n (x := 45) dX6_apply_50 rfl ?_
        refine go_iload_n (x := v1) dX6_apply_51 rfl ?_
        refine go_if_ne 59 dX6_apply_52 rfl (fun q => ?_) (fun q => ?_)
        · replace vc := vc.1 q
          refine go_iconst (v := 0) dX6_apply_59 rfl ?_
          refine gvV1 MX6_push dX6_apply_60 lX6_40 kX6_push vX6_push sh45 (by decide) rfl (Nat.le_of_ble_eq_true rfl) vc ?_
          intro h5 vc
          obtain ⟨hR5, vc⟩ := vc
          replace hR := hR5.trans hR
          refine go_goto 79 dX6_apply_63 rfl ?_
          exact go_vret dX6_apply_79 rfl vc rfl (Nat.le_refl _) (Nat.le_refl _)
        · replace vc := vc.2 q
          refine go_iconst (v := 1) dX6_apply_55 rfl ?_
          refine go_goto 60 dX6_apply_56 rfl ?_
          refine gvV1 MX6_push dX6_apply_60 lX6_40 kX6_push vX6_push sh45 (by decide) rfl (Nat.le_of_ble_eq_true rfl) vc ?_
          intro h6 vc
          obtain ⟨hR6, vc⟩ := vc
          replace hR := hR6.trans hR
          refine go_goto 79 dX6_apply_63 rfl ?_
          exact go_vret dX6_apply_79 rfl vc rfl (Nat.le_refl _) (Nat.le_refl _)
    · replace vc := vc.2 q
      refine go_aload_n (x := 45) dX6_apply_32 rfl ?_
      refine go_aload_n (x := 45) dX6_apply_33 rfl ?_
      refine go_iload_n (x := v1) dX6_apply_34 rfl ?_
      refine gvI1 MX6_crowdOf dX6_apply_35 lX6_51 kX6_crowdOf vX6_crowdOf sh45 (by decide) rfl (Nat.le_of_ble_eq_true rfl) vc ?_
      intro v7 h7 vc
      obtain ⟨hR7, vc⟩ := vc
      replace hR := hR7.trans hR
      refine gvV1 MX6_push dX6_apply_38 lX6_40 kX6_push vX6_push sh45 (by decide) rfl (Nat.le_of_ble_eq_true rfl) vc ?_
      intro h8 vc
      obtain ⟨hR8, vc⟩ := vc
      replace hR := hR8.trans hR
      refine go_goto 79 dX6_apply_41 rfl ?_
      exact go_vret dX6_apply_79 rfl vc rfl (Nat.le_refl _) (Nat.le_refl _)
  · replace vc := vc.2 q
    refine go_iload_n (x := a1) dX6_apply_4 rfl ?_
    refine go_bipush (v := 27) dX6_apply_5 rfl ?_
    refine go_icmp_ge 21 dX6_apply_7 rfl (fun q => ?_) (fun q => ?_)
    · replace vc := vc.1 q
      refine go_aload_n (x := 45) dX6_apply_21 rfl ?_
      refine gvI0 MX6_pop dX6_apply_22 lX6_47 kX6_pop vX6_pop sh45 (by decide) rfl (Nat.le_of_ble_eq_true rfl) vc ?_
      intro v9 h9 vc
      obtain ⟨hR9, vc⟩ := vc
      replace hR := hR9.trans hR
      refine go_istore_n dX6_apply_25 (Nat.le_of_ble_eq_true rfl) ?_
      show gg p l e s m args below meth c G (d + 1) MX6_apply Q 26 [some (.ref 45), some (.int a1), some (.int v9)] [] h9
      refine go_iload_n (x := a1) dX6_apply_26 rfl ?_
      refine go_bipush (v := 27) dX6_apply_27 rfl ?_
      refine go_icmp_ne 44 dX6_apply_29 rfl (fun q => ?_) (fun q => ?_)
      · replace vc := vc.1 q
        refine go_iload_n (x := a1) dX6_apply_44 rfl ?_
        refine go_bipush (v := 30) dX6_apply_45 rfl ?_
        refine go_icmp_ne 66 dX6_apply_47 rfl (fun q => ?_) (fun q => ?_)
        · replace vc := vc.1 q
          refine go_aload_n (x := 45) dX6_apply_66 rfl ?_
          refine go_iload_n (x := a1) dX6_apply_67 rfl ?_
          refine go_aload_n (x := 45) dX6_apply_68 rfl ?_
          refine gvI0 MX6_pop dX6_apply_69 lX6_47 kX6_pop vX6_pop sh45 (by decide) rfl (Nat.le_of_ble_eq_true rfl) vc ?_
          intro v10 h10 vc
          obtain ⟨hR10, vc⟩ := vc
          replace hR := hR10.trans hR
          refine go_iload_n (x := v9) dX6_apply_72 rfl ?_
          refine gsI3 MX6_join dX6_apply_73 lX6_55 kX6_join sX6_join (Nat.le_of_ble_eq_true rfl) vc ?_
          intro v11 h11 vc
          obtain ⟨hR11, vc⟩ := vc
          replace hR := hR11.trans hR
          refine gvV1 MX6_push dX6_apply_76 lX6_40 kX6_push vX6_push sh45 (by decide) rfl (Nat.le_of_ble_eq_true rfl) vc ?_
          intro h12 vc
          obtain ⟨hR12, vc⟩ := vc
          replace hR := hR12.trans hR
          exact go_vret dX6_apply_79 rfl vc rfl (Nat.le_refl _) (Nat.le_refl _)
        · replace vc := vc.2 q
          refine go_aload_n (x := 45) dX6_apply_50 rfl ?_
          refine go_iload_n (x := v9) dX6_apply_51 rfl ?_
          refine go_if_ne 59 dX6_apply_52 rfl (fun q => ?_) (fun q => ?_)
          · replace vc := vc.1 q
            refine go_iconst (v := 0) dX6_apply_59 rfl ?_
            refine gvV1 MX6_push dX6_apply_60 lX6_40 kX6_push vX6_push sh45 (by decide) rfl (Nat.le_of_ble_eq_true rfl) vc ?_
            intro h13 vc
            obtain ⟨hR13, vc⟩ := vc
            replace hR := hR13.trans hR
            refine go_goto 79 dX6_apply_63 rfl ?_
            exact go_vret dX6_apply_79 rfl vc rfl (Nat.le_refl _) (Nat.le_refl _)
          · replace vc := vc.2 q
            refine go_iconst (v := 1) dX6_apply_55 rfl ?_
            refine go_goto 60 dX6_apply_56 rfl ?_
            refine gvV1 MX6_push dX6_apply_60 lX6_40 kX6_push vX6_push sh45 (by decide) rfl (Nat.le_of_ble_eq_true rfl) vc ?_
            intro h14 vc
            obtain ⟨hR14, vc⟩ := vc
            replace hR := hR14.trans hR
            refine go_goto 79 dX6_apply_63 rfl ?_
            exact go_vret dX6_apply_79 rfl vc rfl (Nat.le_refl _) (Nat.le_refl _)
      · replace vc := vc.2 q
        refine go_aload_n (x := 45) dX6_apply_32 rfl ?_
        refine go_aload_n (x := 45) dX6_apply_33 rfl ?_
        refine go_iload_n (x := v9) dX6_apply_34 rfl ?_
        refine gvI1 MX6_crowdOf dX6_apply_35 lX6_51 kX6_crowdOf vX6_crowdOf sh45 (by decide) rfl (Nat.le_of_ble_eq_true rfl) vc ?_
        intro v15 h15 vc
        obtain ⟨hR15, vc⟩ := vc
        replace hR := hR15.trans hR
        refine gvV1 MX6_push dX6_apply_38 lX6_40 kX6_push vX6_push sh45 (by decide) rfl (Nat.le_of_ble_eq_true rfl) vc ?_
        intro h16 vc
        obtain ⟨hR16, vc⟩ := vc
        replace hR := hR16.trans hR
        refine go_goto 79 dX6_apply_41 rfl ?_
        exact go_vret dX6_apply_79 rfl vc rfl (Nat.le_refl _) (Nat.le_refl _)
    · replace vc := vc.2 q
      refine go_aload_n (x := 45) dX6_apply_10 rfl ?_
      refine go_aload_n (x := 45) dX6_apply_11 rfl ?_
      refine go_getR (x := 46) dX6_apply_12 f6_9 sh45 (fun _ _ => rfl) (rf45_0 hR) ?_
      refine go_iload_n (x := a1) dX6_apply_15 rfl ?_
      refine go_iald' (v := (h.1 46 a1.toNatClampNeg)) dX6_apply_16 sh46 vc.1 rfl ?_
      have vc := vc.2
      refine gvV1 MX6_push dX6_apply_17 lX6_40 kX6_push vX6_push sh45 (by decide) rfl (Nat.le_of_ble_eq_true rfl) vc ?_
      intro h17 vc
      obtain ⟨hR17, vc⟩ := vc
      replace hR := hR17.trans hR
      exact go_vret dX6_apply_20 rfl vc rfl (Nat.le_refl _) (Nat.le_refl _)
set_option maxRecDepth 20000 in
theorem wX6_join_0 {p : Program} {l : Launch} {e : Env} {s : State} {m : MethodId} {args : Array Value} {below : List Frame} {meth : Method} {c : Code} {G : gG} {d : Nat} {Q : Option Value → gH → Prop} {h : gH} {lk sp : Nat} {cd : Option Nat} {a1 : Int32} {a2 : Int32} {a3 : Int32} (hR : h.2.2 = gRF lk sp cd) (hlk : lk = 30 ∨ lk = 67) (hsp : sp = 30 ∨ sp = 67)  (vc : ((a1 = 28 → gg p l e s m args below meth c G (d + 1) MX6_join Q 211 [some (.int a1), some (.int a2), some (.int a3), some (.long 0), none] [] h) ∧ (a1 = 29 → gg p l e s m args below meth c G (d + 1) MX6_join Q 201 [some (.int a1), some (.int a2), some (.int a3), some (.long 0), none] [] h) ∧ (a1 = 32 → gg p l e s m args below meth c G (d + 1) MX6_join Q 201 [some (.int a1), some (.int a2), some (.int a3), some (.long 0), none] [] h) ∧ (a1 = 33 → gg p l e s m args below meth c G (d + 1) MX6_join Q 211 [some (.int a1), some (.int a2), some (.int a3), some (.long 0), none] [] h) ∧ (a1 = 42 → gg p l e s m args below meth c G (d + 1) MX6_join Q 260 [some (.int a1), some (.int a2), some (.int a3), some (.long ((a2 : Int32).toInt64 * (a3 : Int32).toInt64)), none] [] h) ∧ (a1 = 43 → gg p l e s m args below meth c G (d + 1) MX6_join Q 260 [some (.int a1), some (.int a2), some (.int a3), some (.long ((a2 : Int32).toInt64 + (a3 : Int32).toInt64)), none] [] h) ∧ (a1 = 45 → gg p l e s m args below meth c G (d + 1) MX6_join Q 260 [some (.int a1), some (.int a2), some (.int a3), some (.long ((a2 : Int32).toInt64 - (a3 : Int32).toInt64)), none] [] h) ∧ (a1 = 47 → ((¬ a3 = 0 → (¬ a3 = 0 ∧ gg p l e s m args below meth c G (d + 1) MX6_join Q 260 [some (.int a1), some (.int a2), some (.int a3), some (.long ((fdv a2 a3) : Int32).toInt64), none] [] h)) ∧ (a3 = 0 → gg p l e s m args below meth c G (d + 1) MX6_join Q 260 [some (.int a1), some (.int a2), some (.int a3), some (.long 0), none] [] h))) ∧ (a1 = 60 → ((a3 ≤ a2 → gg p l e s m args below meth c G (d + 1) MX6_join Q 260 [some (.int a1), some (.int a2), some (.int a3), some (.long 0), none] [] h) ∧ (¬ a3 ≤ a2 → gg p l e s m args below meth c G (d + 1) MX6_join Q 260 [some (.int a1), some (.int a2), some (.int a3), some (.long 1), none] [] h))) ∧ (a1 = 62 → ((a2 ≤ a3 → gg p l e s m args below meth c G (d + 1) MX6_join Q 260 [some (.int a1), some (.int a2), some (.int a3), some (.long 0), none] [] h) ∧ (¬ a2 ≤ a3 → gg p l e s m args below meth c G (d + 1) MX6_join Q 260 [some (.int a1), some (.int a2), some (.int a3), some (.long 1), none] [] h))) ∧ (¬ a1 = 28 → ¬ a1 = 29 → ¬ a1 = 32 → ¬ a1 = 33 → ¬ a1 = 42 → ¬ a1 = 43 → ¬ a1 = 45 → ¬ a1 = 47 → ¬ a1 = 60 → ¬ a1 = 62 → gg p l e s m args below meth c G (d + 1) MX6_join Q 249 [some (.int a1), some (.int a2), some (.int a3), some (.long 0), none] [] h))) : gg p l e s m args below meth c G (d + 1) MX6_join Q 0 [some (.int a1), some (.int a2), some (.int a3), none, none] [] h := by
  refine go_lconst (v := 0) dX6_join_0 rfl ?_
  refine go_lstore_n dX6_join_1 (Nat.le_of_ble_eq_true rfl) ?_
  show gg p l e s m args below meth c G (d + 1) MX6_join Q 2 [some (.int a1), some (.int a2), some (.int a3), some (.long 0), none] [] h
  refine go_iload_n (x := a1) dX6_join_2 rfl ?_
  by_cases q0 : a1 = 28
  · refine go_tableIn (off := 208) 211 dX6_join_3 (by rw [q0]; decide) (by rw [q0]; decide) (by rw [q0]; rfl) rfl ?_
    replace vc := vc.1 q0
    exact vc
  by_cases q1 : a1 = 29
  · refine go_tableIn (off := 198) 201 dX6_join_3 (by rw [q1]; decide) (by rw [q1]; decide) (by rw [q1]; rfl) rfl ?_
    replace vc := vc.2.1 q1
    exact vc
  by_cases q2 : a1 = 32
  · refine go_tableIn (off := 198) 201 dX6_join_3 (by rw [q2]; decide) (by rw [q2]; decide) (by rw [q2]; rfl) rfl ?_
    replace vc := vc.2.2.1 q2
    exact vc
  by_cases q3 : a1 = 33
  · refine go_tableIn (off := 208) 211 dX6_join_3 (by rw [q3]; decide) (by rw [q3]; decide) (by rw [q3]; rfl) rfl ?_
    replace vc := vc.2.2.2.1 q3
    exact vc
  by_cases q4 : a1 = 42
  · refine go_tableIn (off := 171) 174 dX6_join_3 (by rw [q4]; decide) (by rw [q4]; decide) (by rw [q4]; rfl) rfl ?_
    replace vc := vc.2.2.2.2.1 q4
    refine go_iload_n (x := a2) dX6_join_174 rfl ?_
    refine go_i2l dX6_join_175 ?_
    refine go_iload_n (x := a3) dX6_join_176 rfl ?_
    refine go_i2l dX6_join_177 ?_
    refine go_lmul dX6_join_178 ?_
    refine go_lstore_n dX6_join_179 (Nat.le_of_ble_eq_true rfl) ?_
    show gg p l e s m args below meth c G (d + 1) MX6_join Q 180 [some (.int a1), some (.int a2), some (.int a3), some (.long ((a2 : Int32).toInt64 * (a3 : Int32).toInt64)), none] [] h
    refine go_goto 260 dX6_join_180 rfl ?_
    exact vc
  by_cases q5 : a1 = 43
  · refine go_tableIn (off := 153) 156 dX6_join_3 (by rw [q5]; decide) (by rw [q5]; decide) (by rw [q5]; rfl) rfl ?_
    replace vc := vc.2.2.2.2.2.1 q5
    refine go_iload_n (x := a2) dX6_join_156 rfl ?_
    refine go_i2l dX6_join_157 ?_
    refine go_iload_n (x := a3) dX6_join_158 rfl ?_
    refine go_i2l dX6_join_159 ?_
    refine go_ladd dX6_join_160 ?_
    refine go_lstore_n dX6_join_161 (Nat.le_of_ble_eq_true rfl) ?_
    show gg p l e s m args below meth c G (d + 1) MX6_join Q 162 [some (.int a1), some (.int a2), some (.int a3), some (.long ((a2 : Int32).toInt64 + (a3 : Int32).toInt64)), none] [] h
    refine go_goto 260 dX6_join_162 rfl ?_
    exact vc
  by_cases q6 : a1 = 45
  · refine go_tableIn (off := 162) 165 dX6_join_3 (by rw [q6]; decide) (by rw [q6]; decide) (by rw [q6]; rfl) rfl ?_
    replace vc := vc.2.2.2.2.2.2.1 q6
    refine go_iload_n (x := a2) dX6_join_165 rfl ?_
    refine go_i2l dX6_join_166 ?_
    refine go_iload_n (x := a3) dX6_join_167 rfl ?_
    refine go_i2l dX6_join_168 ?_
    refine go_lsub dX6_join_169 ?_
    refine go_lstore_n dX6_join_170 (Nat.le_of_ble_eq_true rfl) ?_
    show gg p l e s m args below meth c G (d + 1) MX6_join Q 171 [some (.int a1), some (.int a2), some (.int a3), some (.long ((a2 : Int32).toInt64 - (a3 : Int32).toInt64)), none] [] h
    refine go_goto 260 dX6_join_171 rfl ?_
    exact vc
  by_cases q7 : a1 = 47
  · refine go_tableIn (off := 180) 183 dX6_join_3 (by rw [q7]; decide) (by rw [q7]; decide) (by rw [q7]; rfl) rfl ?_
    replace vc := vc.2.2.2.2.2.2.2.1 q7
    refine go_iload_n (x := a3) dX6_join_183 rfl ?_
    refine go_if_ne 191 dX6_join_184 rfl (fun q => ?_) (fun q => ?_)
    · replace vc := vc.1 q
      refine go_iload_n (x := a2) dX6_join_191 rfl ?_
      refine go_iload_n (x := a3) dX6_join_192 rfl ?_
      refine go_fdiv dX6_join_193 lX6_59 vc.1 (Nat.le_of_ble_eq_true rfl) ?_
      have vc := vc.2
      refine go_i2l dX6_join_196 ?_
      refine go_lstore_n dX6_join_197 (Nat.le_of_ble_eq_true rfl) ?_
      show gg p l e s m args below meth c G (d + 1) MX6_join Q 198 [some (.int a1), some (.int a2), some (.int a3), some (.long ((fdv a2 a3) : Int32).toInt64), none] [] h
      refine go_goto 260 dX6_join_198 rfl ?_
      exact vc
    · replace vc := vc.2 q
      refine go_lconst (v := 0) dX6_join_187 rfl ?_
      refine go_goto 197 dX6_join_188 rfl ?_
      refine go_lstore_n dX6_join_197 (Nat.le_of_ble_eq_true rfl) ?_
      show gg p l e s m args below meth c G (d + 1) MX6_join Q 198 [some (.int a1), some (.int a2), some (.int a3), some (.long 0), none] [] h
      refine go_goto 260 dX6_join_198 rfl ?_
      exact vc
  by_cases q8 : a1 = 60
  · refine go_tableIn (off := 218) 221 dX6_join_3 (by rw [q8]; decide) (by rw [q8]; decide) (by rw [q8]; rfl) rfl ?_
    replace vc := vc.2.2.2.2.2.2.2.2.1 q8
    refine go_iload_n (x := a2) dX6_join_221 rfl ?_
    refine go_iload_n (x := a3) dX6_join_222 rfl ?_
    refine go_icmp_ge 230 dX6_join_223 rfl (fun q => ?_) (fun q => ?_)
    · replace vc := vc.1 q
      refine go_lconst (v := 0) dX6_join_230 rfl ?_
      refine go_lstore_n dX6_join_231 (Nat.le_of_ble_eq_true rfl) ?_
      show gg p l e s m args below meth c G (d + 1) MX6_join Q 232 [some (.int a1), some (.int a2), some (.int a3), some (.long 0), none] [] h
      refine go_goto 260 dX6_join_232 rfl ?_
      exact vc
    · replace vc := vc.2 q
      refine go_lconst (v := 1) dX6_join_226 rfl ?_
      refine go_goto 231 dX6_join_227 rfl ?_
      refine go_lstore_n dX6_join_231 (Nat.le_of_ble_eq_true rfl) ?_
      show gg p l e s m args below meth c G (d + 1) MX6_join Q 232 [some (.int a1), some (.int a2), some (.int a3), some (.long 1), none] [] h
      refine go_goto 260 dX6_join_232 rfl ?_
      exact vc
  by_cases q9 : a1 = 62
  · refine go_tableIn (off := 232) 235 dX6_join_3 (by rw [q9]; decide) (by rw [q9]; decide) (by rw [q9]; rfl) rfl ?_
    replace vc := vc.2.2.2.2.2.2.2.2.2.1 q9
    refine go_iload_n (x := a2) dX6_join_235 rfl ?_
    refine go_iload_n (x := a3) dX6_join_236 rfl ?_
    refine go_icmp_le 244 dX6_join_237 rfl (fun q => ?_) (fun q => ?_)
    · replace vc := vc.1 q
      refine go_lconst (v := 0) dX6_join_244 rfl ?_
      refine go_lstore_n dX6_join_245 (Nat.le_of_ble_eq_true rfl) ?_
      show gg p l e s m args below meth c G (d + 1) MX6_join Q 246 [some (.int a1), some (.int a2), some (.int a3), some (.long 0), none] [] h
      refine go_goto 260 dX6_join_246 rfl ?_
      exact vc
    · replace vc := vc.2 q
      refine go_lconst (v := 1) dX6_join_240 rfl ?_
      refine go_goto 245 dX6_join_241 rfl ?_
      refine go_lstore_n dX6_join_245 (Nat.le_of_ble_eq_true rfl) ?_
      show gg p l e s m args below meth c G (d + 1) MX6_join Q 246 [some (.int a1), some (.int a2), some (.int a3), some (.long 1), none] [] h
      refine go_goto 260 dX6_join_246 rfl ?_
      exact vc
  replace vc := vc.2.2.2.2.2.2.2.2.2.2 q0 q1 q2 q3 q4 q5 q6 q7 q8 q9
  by_cases r0 : a1 = 30
  · refine go_tableIn (off := 246) 249 dX6_join_3 (by rw [r0]; decide) (by rw [r0]; decide) (by rw [r0]; rfl) rfl ?_
    exact vc
  by_cases r1 : a1 = 31
  · refine go_tableIn (off := 246) 249 dX6_join_3 (by rw [r1]; decide) (by rw [r1]; decide) (by rw [r1]; rfl) rfl ?_
    exact vc
  by_cases r2 : a1 = 34
  · refine go_tableIn (off := 246) 249 dX6_join_3 (by rw [r2]; decide) (by rw [r2]; decide) (by rw [r2]; rfl) rfl ?_
    exact vc
  by_cases r3 : a1 = 35
  · refine go_tableIn (off := 246) 249 dX6_join_3 (by rw [r3]; decide) (by rw [r3]; decide) (by rw [r3]; rfl) rfl ?_
    exact vc
  by_cases r4 : a1 = 36
  · refine go_tableIn (off := 246) 249 dX6_join_3 (by rw [r4]; decide) (by rw [r4]; decide) (by rw [r4]; rfl) rfl ?_
    exact vc
  by_cases r5 : a1 = 37
  · refine go_tableIn (off := 246) 249 dX6_join_3 (by rw [r5]; decide) (by rw [r5]; decide) (by rw [r5]; rfl) rfl ?_
    exact vc
  by_cases r6 : a1 = 38
  · refine go_tableIn (off := 246) 249 dX6_join_3 (by rw [r6]; decide) (by rw [r6]; decide) (by rw [r6]; rfl) rfl ?_
    exact vc
  by_cases r7 : a1 = 39
  · refine go_tableIn (off := 246) 249 dX6_join_3 (by rw [r7]; decide) (by rw [r7]; decide) (by rw [r7]; rfl) rfl ?_
    exact vc
  by_cases r8 : a1 = 40
  · refine go_tableIn (off := 246) 249 dX6_join_3 (by rw [r8]; decide) (by rw [r8]; decide) (by rw [r8]; rfl) rfl ?_
    exact vc
  by_cases r9 : a1 = 41
  · refine go_tableIn (off := 246) 249 dX6_join_3 (by rw [r9]; decide) (by rw [r9]; decide) (by rw [r9]; rfl) rfl ?_
    exact vc
  by_cases r10 : a1 = 44
  · refine go_tableIn (off := 246) 249 dX6_join_3 (by rw [r10]; decide) (by rw [r10]; decide) (by rw [r10]; rfl) rfl ?_
    exact vc
  by_cases r11 : a1 = 46
  · refine go_tableIn (off := 246) 249 dX6_join_3 (by rw [r11]; decide) (by rw [r11]; decide) (by rw [r11]; rfl) rfl ?_
    exact vc
  by_cases r12 : a1 = 48
  · refine go_tableIn (off := 246) 249 dX6_join_3 (by rw [r12]; decide) (by rw [r12]; decide) (by rw [r12]; rfl) rfl ?_
    exact vc
  by_cases r13 : a1 = 49
  · refine go_tableIn (off := 246) 249 dX6_join_3 (by rw [r13]; decide) (by rw [r13]; decide) (by rw [r13]; rfl) rfl ?_
    exact vc
  by_cases r14 : a1 = 50
  · refine go_tableIn (off := 246) 249 dX6_join_3 (by rw [r14]; decide) (by rw [r14]; decide) (by rw [r14]; rfl) rfl ?_
    exact vc
  by_cases r15 : a1 = 51
  · refine go_tableIn (off := 246) 249 dX6_join_3 (by rw [r15]; decide) (by rw [r15]; decide) (by rw [r15]; rfl) rfl ?_
    exact vc
  by_cases r16 : a1 = 52
  · refine go_tableIn (off := 246) 249 dX6_join_3 (by rw [r16]; decide) (by rw [r16]; decide) (by rw [r16]; rfl) rfl ?_
    exact vc
  by_cases r17 : a1 = 53
  · refine go_tableIn (off := 246) 249 dX6_join_3 (by rw [r17]; decide) (by rw [r17]; decide) (by rw [r17]; rfl) rfl ?_
    exact vc
  by_cases r18 : a1 = 54
  · refine go_tableIn (off := 246) 249 dX6_join_3 (by rw [r18]; decide) (by rw [r18]; decide) (by rw [r18]; rfl) rfl ?_
    exact vc
  by_cases r19 : a1 = 55
  · refine go_tableIn (off := 246) 249 dX6_join_3 (by rw [r19]; decide) (by rw [r19]; decide) (by rw [r19]; rfl) rfl ?_
    exact vc
  by_cases r20 : a1 = 56
  · refine go_tableIn (off := 246) 249 dX6_join_3 (by rw [r20]; decide) (by rw [r20]; decide) (by rw [r20]; rfl) rfl ?_
    exact vc
  by_cases r21 : a1 = 57
  · refine go_tableIn (off := 246) 249 dX6_join_3 (by rw [r21]; decide) (by rw [r21]; decide) (by rw [r21]; rfl) rfl ?_
    exact vc
  by_cases r22 : a1 = 58
  · refine go_tableIn (off := 246) 249 dX6_join_3 (by rw [r22]; decide) (by rw [r22]; decide) (by rw [r22]; rfl) rfl ?_
    exact vc
  by_cases r23 : a1 = 59
  · refine go_tableIn (off := 246) 249 dX6_join_3 (by rw [r23]; decide) (by rw [r23]; decide) (by rw [r23]; rfl) rfl ?_
    exact vc
  by_cases r24 : a1 = 61
  · refine go_tableIn (off := 246) 249 dX6_join_3 (by rw [r24]; decide) (by rw [r24]; decide) (by rw [r24]; rfl) rfl ?_
    exact vc
  refine go_tableOut 249 dX6_join_3 ?_ rfl ?_
  · have e0 : ¬ (a1).toInt = 28 := lv_neT q0 rfl; have e1 : ¬ (a1).toInt = 29 := lv_neT q1 rfl; have e2 : ¬ (a1).toInt = 32 := lv_neT q2 rfl; have e3 : ¬ (a1).toInt = 33 := lv_neT q3 rfl; have e4 : ¬ (a1).toInt = 42 := lv_neT q4 rfl; have e5 : ¬ (a1).toInt = 43 := lv_neT q5 rfl; have e6 : ¬ (a1).toInt = 45 := lv_neT q6 rfl; have e7 : ¬ (a1).toInt = 47 := lv_neT q7 rfl; have e8 : ¬ (a1).toInt = 60 := lv_neT q8 rfl; have e9 : ¬ (a1).toInt = 62 := lv_neT q9 rfl; have e10 : ¬ (a1).toInt = 30 := lv_neT r0 rfl; have e11 : ¬ (a1).toInt = 31 := lv_neT r1 rfl; have e12 : ¬ (a1).toInt = 34 := lv_neT r2 rfl; have e13 : ¬ (a1).toInt = 35 := lv_neT r3 rfl; have e14 : ¬ (a1).toInt = 36 := lv_neT r4 rfl; have e15 : ¬ (a1).toInt = 37 := lv_neT r5 rfl; have e16 : ¬ (a1).toInt = 38 := lv_neT r6 rfl; have e17 : ¬ (a1).toInt = 39 := lv_neT r7 rfl; have e18 : ¬ (a1).toInt = 40 := lv_neT r8 rfl; have e19 : ¬ (a1).toInt = 41 := lv_neT r9 rfl; have e20 : ¬ (a1).toInt = 44 := lv_neT r10 rfl; have e21 : ¬ (a1).toInt = 46 := lv_neT r11 rfl; have e22 : ¬ (a1).toInt = 48 := lv_neT r12 rfl; have e23 : ¬ (a1).toInt = 49 := lv_neT r13 rfl; have e24 : ¬ (a1).toInt = 50 := lv_neT r14 rfl; have e25 : ¬ (a1).toInt = 51 := lv_neT r15 rfl; have e26 : ¬ (a1).toInt = 52 := lv_neT r16 rfl; have e27 : ¬ (a1).toInt = 53 := lv_neT r17 rfl; have e28 : ¬ (a1).toInt = 54 := lv_neT r18 rfl; have e29 : ¬ (a1).toInt = 55 := lv_neT r19 rfl; have e30 : ¬ (a1).toInt = 56 := lv_neT r20 rfl; have e31 : ¬ (a1).toInt = 57 := lv_neT r21 rfl; have e32 : ¬ (a1).toInt = 58 := lv_neT r22 rfl; have e33 : ¬ (a1).toInt = 59 := lv_neT r23 rfl; have e34 : ¬ (a1).toInt = 61 := lv_neT r24 rfl
    omega
  exact vc
set_option maxRecDepth 20000 in
theorem wX6_join_201 {p : Program} {l : Launch} {e : Env} {s : State} {m : MethodId} {args : Array Value} {below : List Frame} {meth : Method} {c : Code} {G : gG} {d : Nat} {Q : Option Value → gH → Prop} {h : gH} {lk sp : Nat} {cd : Option Nat} {x0 : Int32} {x1 : Int32} {x2 : Int32} {x3 : Int64} (hR : h.2.2 = gRF lk sp cd) (hlk : lk = 30 ∨ lk = 67) (hsp : sp = 30 ∨ sp = 67)  (vc : gg p l e s m args below meth c G (d + 1) MX6_join Q 260 [some (.int x0), some (.int x1), some (.int x2), some (.long ((if x2 < x1 then x2 else x1) : Int32).toInt64), none] [] h) : gg p l e s m args below meth c G (d + 1) MX6_join Q 201 [some (.int x0), some (.int x1), some (.int x2), some (.long x3), none] [] h := by
  refine go_iload_n (x := x1) dX6_join_201 rfl ?_
  refine go_iload_n (x := x2) dX6_join_202 rfl ?_
  refine go_min dX6_join_203 lX6_65 (Nat.le_of_ble_eq_true rfl) ?_
  refine go_i2l dX6_join_206 ?_
  refine go_lstore_n dX6_join_207 (Nat.le_of_ble_eq_true rfl) ?_
  show gg p l e s m args below meth c G (d + 1) MX6_join Q 208 [some (.int x0), some (.int x1), some (.int x2), some (.long ((if x2 < x1 then x2 else x1) : Int32).toInt64), none] [] h
  refine go_goto 260 dX6_join_208 rfl ?_
  exact vc
set_option maxRecDepth 20000 in
theorem wX6_join_211 {p : Program} {l : Launch} {e : Env} {s : State} {m : MethodId} {args : Array Value} {below : List Frame} {meth : Method} {c : Code} {G : gG} {d : Nat} {Q : Option Value → gH → Prop} {h : gH} {lk sp : Nat} {cd : Option Nat} {x0 : Int32} {x1 : Int32} {x2 : Int32} {x3 : Int64} (hR : h.2.2 = gRF lk sp cd) (hlk : lk = 30 ∨ lk = 67) (hsp : sp = 30 ∨ sp = 67)  (vc : gg p l e s m args below meth c G (d + 1) MX6_join Q 260 [some (.int x0), some (.int x1), some (.int x2), some (.long ((if x1 < x2 then x2 else x1) : Int32).toInt64), none] [] h) : gg p l e s m args below meth c G (d + 1) MX6_join Q 211 [some (.int x0), some (.int x1), some (.int x2), some (.long x3), none] [] h := by
  refine go_iload_n (x := x1) dX6_join_211 rfl ?_
  refine go_iload_n (x := x2) dX6_join_212 rfl ?_
  refine go_max dX6_join_213 lX6_68 (Nat.le_of_ble_eq_true rfl) ?_
  refine go_i2l dX6_join_216 ?_
  refine go_lstore_n dX6_join_217 (Nat.le_of_ble_eq_true rfl) ?_
  show gg p l e s m args below meth c G (d + 1) MX6_join Q 218 [some (.int x0), some (.int x1), some (.int x2), some (.long ((if x1 < x2 then x2 else x1) : Int32).toInt64), none] [] h
  refine go_goto 260 dX6_join_218 rfl ?_
  exact vc
set_option maxRecDepth 20000 in
theorem wX6_join_249 {p : Program} {l : Launch} {e : Env} {s : State} {m : MethodId} {args : Array Value} {below : List Frame} {meth : Method} {c : Code} {G : gG} {d : Nat} {Q : Option Value → gH → Prop} {h : gH} {lk sp : Nat} {cd : Option Nat} {x0 : Int32} {x1 : Int32} {x2 : Int32} {x3 : Int64} (hR : h.2.2 = gRF lk sp cd) (hlk : lk = 30 ∨ lk = 67) (hsp : sp = 30 ∨ sp = 67)  (vc : ((¬ x1 = x2 → gg p l e s m args below meth c G (d + 1) MX6_join Q 260 [some (.int x0), some (.int x1), some (.int x2), some (.long 0), none] [] h) ∧ (x1 = x2 → gg p l e s m args below meth c G (d + 1) MX6_join Q 260 [some (.int x0), some (.int x1), some (.int x2), some (.long 1), none] [] h))) : gg p l e s m args below meth c G (d + 1) MX6_join Q 249 [some (.int x0), some (.int x1), some (.int x2), some (.long x3), none] [] h := by
  refine go_iload_n (x := x1) dX6_join_249 rfl ?_
  refine go_iload_n (x := x2) dX6_join_250 rfl ?_
  refine go_icmp_ne 258 dX6_join_251 rfl (fun q => ?_) (fun q => ?_)
  · replace vc := vc.1 q
    refine go_lconst (v := 0) dX6_join_258 rfl ?_
    refine go_lstore_n dX6_join_259 (Nat.le_of_ble_eq_true rfl) ?_
    show gg p l e s m args below meth c G (d + 1) MX6_join Q 260 [some (.int x0), some (.int x1), some (.int x2), some (.long 0), none] [] h
    exact vc
  · replace vc := vc.2 q
    refine go_lconst (v := 1) dX6_join_254 rfl ?_
    refine go_goto 259 dX6_join_255 rfl ?_
    refine go_lstore_n dX6_join_259 (Nat.le_of_ble_eq_true rfl) ?_
    show gg p l e s m args below meth c G (d + 1) MX6_join Q 260 [some (.int x0), some (.int x1), some (.int x2), some (.long 1), none] [] h
    exact vc
set_option maxRecDepth 20000 in
theorem wX6_join_260 {p : Program} {l : Launch} {e : Env} {s : State} {m : MethodId} {args : Array Value} {below : List Frame} {meth : Method} {c : Code} {G : gG} {d : Nat} {Q : Option Value → gH → Prop} {h : gH} {lk sp : Nat} {cd : Option Nat} {x0 : Int32} {x1 : Int32} {x2 : Int32} {x3 : Int64} (hR : h.2.2 = gRF lk sp cd) (hlk : lk = 30 ∨ lk = 67) (hsp : sp = 30 ∨ sp = 67)  (vc : Q (some (.int ((if (if x3 < 1000000 then x3 else 1000000) < (-1000000) then (-1000000) else (if x3 < 1000000 then x3 else 1000000)) : Int64).toInt32)) h) : gg p l e s m args below meth c G (d + 1) MX6_join Q 260 [some (.int x0), some (.int x1), some (.int x2), some (.long x3), none] [] h := by
  refine go_ldc2 (v := (-1000000)) dX6_join_260 nX6_71 ?_
  refine go_ldc2 (v := 1000000) dX6_join_263 nX6_73 ?_
  refine go_lload_n (x := x3) dX6_join_266 rfl ?_
  refine go_minL dX6_join_267 lX6_75 (Nat.le_of_ble_eq_true rfl) ?_
  refine go_maxL dX6_join_270 lX6_78 (Nat.le_of_ble_eq_true rfl) ?_
  refine go_l2i dX6_join_273 ?_
  exact go_iret dX6_join_274 rfl vc rfl (Nat.le_refl _) (Nat.le_refl _)
set_option maxRecDepth 20000 in
theorem wX6_crowdOf_0 {p : Program} {l : Launch} {e : Env} {s : State} {m : MethodId} {args : Array Value} {below : List Frame} {meth : Method} {c : Code} {G : gG} {d : Nat} {Q : Option Value → gH → Prop} {h : gH} {lk sp : Nat} {cd : Option Nat} {a1 : Int32} (hR : h.2.2 = gRF lk sp cd) (hlk : lk = 30 ∨ lk = 67) (hsp : sp = 30 ∨ sp = 67)  (vc : ((a1 < 0 → Q (some (.int 0)) h) ∧ (¬ a1 < 0 → ((48 ≤ a1 → Q (some (.int 0)) h) ∧ (¬ 48 ≤ a1 → (vp_in a1 48 ∧ Q (some (.int (h.1 47 a1.toNatClampNeg))) h)))))) : gg p l e s m args below meth c G d MX6_crowdOf Q 0 [some (.ref 45), some (.int a1)] [] h := by
  refine go_iload_n (x := a1) dX6_crowdOf_0 rfl ?_
  refine go_if_lt 19 dX6_crowdOf_1 rfl (fun q => ?_) (fun q => ?_)
  · replace vc := vc.1 q
    refine go_iconst (v := 0) dX6_crowdOf_19 rfl ?_
    exact go_iret dX6_crowdOf_20 rfl vc rfl (Nat.le_refl _) (Nat.le_refl _)
  · replace vc := vc.2 q
    refine go_iload_n (x := a1) dX6_crowdOf_4 rfl ?_
    refine go_bipush (v := 48) dX6_crowdOf_5 rfl ?_
    refine go_icmp_ge 19 dX6_crowdOf_7 rfl (fun q => ?_) (fun q => ?_)
    · replace vc := vc.1 q
      refine go_iconst (v := 0) dX6_crowdOf_19 rfl ?_
      exact go_iret dX6_crowdOf_20 rfl vc rfl (Nat.le_refl _) (Nat.le_refl _)
    · replace vc := vc.2 q
      refine go_aload_n (x := 45) dX6_crowdOf_10 rfl ?_
      refine go_getR (x := 47) dX6_crowdOf_11 f6_15 sh45 (fun _ _ => rfl) (rf45_1 hR) ?_
      refine go_iload_n (x := a1) dX6_crowdOf_14 rfl ?_
      refine go_iald' (v := (h.1 47 a1.toNatClampNeg)) dX6_crowdOf_15 sh47 vc.1 rfl ?_
      have vc := vc.2
      refine go_goto 20 dX6_crowdOf_16 rfl ?_
      exact go_iret dX6_crowdOf_20 rfl vc rfl (Nat.le_refl _) (Nat.le_refl _)
set_option maxRecDepth 20000 in
theorem wX6_push_0 {p : Program} {l : Launch} {e : Env} {s : State} {m : MethodId} {args : Array Value} {below : List Frame} {meth : Method} {c : Code} {G : gG} {d : Nat} {Q : Option Value → gH → Prop} {h : gH} {lk sp : Nat} {cd : Option Nat} {a1 : Int32} (hR : h.2.2 = gRF lk sp cd) (hlk : lk = 30 ∨ lk = 67) (hsp : sp = 30 ∨ sp = 67)  (vc : (((h.1 45 3) < 0 → Q none h) ∧ (¬ (h.1 45 3) < 0 → ((64 ≤ (h.1 45 3) → Q none h) ∧ (¬ 64 ≤ (h.1 45 3) → (vp_in ((h.1 45 3)) 64 ∧ Q none (sI (sI h 48 ((h.1 45 3) : Int32).toNatClampNeg a1) 45 3 ((h.1 45 3) + 1)))))))) : gg p l e s m args below meth c G d MX6_push Q 0 [some (.ref 45), some (.int a1)] [] h := by
  refine go_aload_n (x := 45) dX6_push_0 rfl ?_
  refine go_getI' (v := (h.1 45 3)) dX6_push_1 f6_21 sh45 (fun _ _ => rfl) rfl ?_
  refine go_if_lt 36 dX6_push_4 rfl (fun q => ?_) (fun q => ?_)
  · replace vc := vc.1 q
    exact go_vret dX6_push_36 rfl vc rfl (Nat.le_refl _) (Nat.le_refl _)
  · replace vc := vc.2 q
    refine go_aload_n (x := 45) dX6_push_7 rfl ?_
    refine go_getI' (v := (h.1 45 3)) dX6_push_8 f6_21 sh45 (fun _ _ => rfl) rfl ?_
    refine go_bipush (v := 64) dX6_push_11 rfl ?_
    refine go_icmp_ge 36 dX6_push_13 rfl (fun q => ?_) (fun q => ?_)
    · replace vc := vc.1 q
      exact go_vret dX6_push_36 rfl vc rfl (Nat.le_refl _) (Nat.le_refl _)
    · replace vc := vc.2 q
      refine go_aload_n (x := 45) dX6_push_16 rfl ?_
      refine go_getR (x := 48) dX6_push_17 f6_18 sh45 (fun _ _ => rfl) (rf45_2 hR) ?_
      refine go_aload_n (x := 45) dX6_push_20 rfl ?_
      refine go_getI' (v := (h.1 45 3)) dX6_push_21 f6_21 sh45 (fun _ _ => rfl) rfl ?_
      refine go_iload_n (x := a1) dX6_push_24 rfl ?_
      refine go_iast dX6_push_25 sh48 vc.1 ?_
      have vc := vc.2
      show gg p l e s m args below meth c G d MX6_push Q 26 [some (.ref 45), some (.int a1)] [] (sI h 48 ((h.1 45 3) : Int32).toNatClampNeg a1)
      refine go_aload_n (x := 45) dX6_push_26 rfl ?_
      refine go_dup dX6_push_27 rfl ?_
      refine go_getI' (v := (h.1 45 3)) dX6_push_28 f6_21 sh45 (fun _ _ => rfl) rfl ?_
      refine go_iconst (v := 1) dX6_push_31 rfl ?_
      refine go_iadd dX6_push_32 ?_
      refine go_putI dX6_push_33 f6_21 sh45 rfl rfl ?_
      exact go_vret dX6_push_36 rfl vc rfl (Nat.le_refl _) (Nat.le_refl _)
set_option maxRecDepth 20000 in
theorem wX6_pop_0 {p : Program} {l : Launch} {e : Env} {s : State} {m : MethodId} {args : Array Value} {below : List Frame} {meth : Method} {c : Code} {G : gG} {d : Nat} {Q : Option Value → gH → Prop} {h : gH} {lk sp : Nat} {cd : Option Nat}  (hR : h.2.2 = gRF lk sp cd) (hlk : lk = 30 ∨ lk = 67) (hsp : sp = 30 ∨ sp = 67)  (vc : (((h.1 45 3) < 1 → Q (some (.int 0)) h) ∧ (¬ (h.1 45 3) < 1 → (((h.1 45 3) ≤ 64 → (vp_in (((h.1 45 3) - 1)) 64 ∧ Q (some (.int (h.1 48 (((h.1 45 3) - 1) : Int32).toNatClampNeg))) (sI h 45 3 ((h.1 45 3) - 1)))) ∧ (¬ (h.1 45 3) ≤ 64 → Q (some (.int 0)) h))))) : gg p l e s m args below meth c G d MX6_pop Q 0 [some (.ref 45)] [] h := by
  refine go_aload_n (x := 45) dX6_pop_0 rfl ?_
  refine go_getI' (v := (h.1 45 3)) dX6_pop_1 f6_21 sh45 (fun _ _ => rfl) rfl ?_
  refine go_iconst (v := 1) dX6_pop_4 rfl ?_
  refine go_icmp_lt 17 dX6_pop_5 rfl (fun q => ?_) (fun q => ?_)
  · replace vc := vc.1 q
    refine go_iconst (v := 0) dX6_pop_17 rfl ?_
    exact go_iret dX6_pop_18 rfl vc rfl (Nat.le_refl _) (Nat.le_refl _)
  · replace vc := vc.2 q
    refine go_aload_n (x := 45) dX6_pop_8 rfl ?_
    refine go_getI' (v := (h.1 45 3)) dX6_pop_9 f6_21 sh45 (fun _ _ => rfl) rfl ?_
    refine go_bipush (v := 64) dX6_pop_12 rfl ?_
    refine go_icmp_le 19 dX6_pop_14 rfl (fun q => ?_) (fun q => ?_)
    · replace vc := vc.1 q
      refine go_aload_n (x := 45) dX6_pop_19 rfl ?_
      refine go_dup dX6_pop_20 rfl ?_
      refine go_getI' (v := (h.1 45 3)) dX6_pop_21 f6_21 sh45 (fun _ _ => rfl) rfl ?_
      refine go_iconst (v := 1) dX6_pop_24 rfl ?_
      refine go_isub dX6_pop_25 ?_
      refine go_putI dX6_pop_26 f6_21 sh45 rfl rfl ?_
      refine go_aload_n (x := 45) dX6_pop_29 rfl ?_
      refine go_getR (x := 48) dX6_pop_30 f6_18 sh45 (fun _ _ => rfl) (rf45_2 hR) ?_
      refine go_aload_n (x := 45) dX6_pop_33 rfl ?_
      refine go_getI' (v := ((h.1 45 3) - 1)) dX6_pop_34 f6_21 sh45 (fun _ _ => rfl) rfl ?_
      refine go_iald' (v := (h.1 48 (((h.1 45 3) - 1) : Int32).toNatClampNeg)) dX6_pop_37 sh48 vc.1 rfl ?_
      have vc := vc.2
      exact go_iret dX6_pop_38 rfl vc rfl (Nat.le_refl _) (Nat.le_refl _)
    · replace vc := vc.2 q
      refine go_iconst (v := 0) dX6_pop_17 rfl ?_
      exact go_iret dX6_pop_18 rfl vc rfl (Nat.le_refl _) (Nat.le_refl _)
set_option maxRecDepth 20000 in
theorem wX9_fearOf_0 {p : Program} {l : Launch} {e : Env} {s : State} {m : MethodId} {args : Array Value} {below : List Frame} {meth : Method} {c : Code} {G : gG} {d : Nat} {Q : Option Value → gH → Prop} {h : gH} {lk sp : Nat} {cd : Option Nat} {a1 : Int32} {a2 : Int32} {a3 : Int32} (hR : h.2.2 = gRF lk sp cd) (hlk : lk = 30 ∨ lk = 67) (hsp : sp = 30 ∨ sp = 67)  (vc : gC l G d MX0_isTold [.ref (lk + 11), .int 0] h (rI fun v1 h1 => h1.2.2 = (h).2.2 ∧ ((¬ v1 = 0 → gC l G d MX9_look [.ref 29, .int a1, .int a2, .int a3] h1 (rV fun h2 => h2.2.2 = (h1).2.2 ∧ gC l G d MX6_reckon [.ref 45, .ref (lk + 11), .int 0] h2 (rI fun v3 h3 => h3.2.2 = (h2).2.2 ∧ gC l G d MX11_inTrust [.int v3] h3 (rI fun v4 h4 => h4.2.2 = (h3).2.2 ∧ Q (some (.int v4)) h4)))) ∧ (v1 = 0 → gC l G d MX4_depthOf [.ref lk, .int a2] h1 (rI fun v5 h5 => h5.2.2 = (h1).2.2 ∧ Q (some (.int (10 * v5))) h5))))) : gg p l e s m args below meth c G (d + 1) MX9_fearOf Q 0 [some (.ref 29), some (.int a1), some (.int a2), some (.int a3)] [] h := by
  refine go_aload_n (x := 29) dX9_fearOf_0 rfl ?_
  refine go_getR (x := lk) dX9_fearOf_1 f9_18 sh29 (fun _ _ => rfl) (rf29_2 hR) ?_
  refine go_getR (x := (lk + 11)) dX9_fearOf_4 f9_26 (slx hlk) (fun _ _ => rfl) (rl_s hR hlk (by decide)) ?_
  refine go_iconst (v := 0) dX9_fearOf_7 rfl ?_
  refine gvI1 MX0_isTold dX9_fearOf_8 lX9_32 kX0_isTold vX0_isTold (sl11 hlk) (by decide) rfl (Nat.le_of_ble_eq_true rfl) vc ?_
  intro v1 h1 vc
  obtain ⟨hR1, vc⟩ := vc
  replace hR := hR1.trans hR
  refine go_if_ne 26 dX9_fearOf_11 rfl (fun q => ?_) (fun q => ?_)
  · replace vc := vc.1 q
    refine go_aload_n (x := 29) dX9_fearOf_26 rfl ?_
    refine go_iload_n (x := a1) dX9_fearOf_27 rfl ?_
    refine go_iload_n (x := a2) dX9_fearOf_28 rfl ?_
    refine go_iload_n (x := a3) dX9_fearOf_29 rfl ?_
    refine gvV3 MX9_look dX9_fearOf_30 lX9_42 kX9_look vX9_look sh29 (by decide) rfl (Nat.le_of_ble_eq_true rfl) vc ?_
    intro h2 vc
    obtain ⟨hR2, vc⟩ := vc
    replace hR := hR2.trans hR
    refine go_aload_n (x := 29) dX9_fearOf_33 rfl ?_
    refine go_getR (x := 45) dX9_fearOf_34 f9_12 sh29 (fun _ _ => rfl) (rf29_1 hR) ?_
    refine go_aload_n (x := 29) dX9_fearOf_37 rfl ?_
    refine go_getR (x := lk) dX9_fearOf_38 f9_18 sh29 (fun _ _ => rfl) (rf29_2 hR) ?_
    refine go_getR (x := (lk + 11)) dX9_fearOf_41 f9_26 (slx hlk) (fun _ _ => rfl) (rl_s hR hlk (by decide)) ?_
    refine go_iconst (v := 0) dX9_fearOf_44 rfl ?_
    refine gvI2 MX6_reckon dX9_fearOf_45 lX9_46 kX6_reckon vX6_reckon sh45 (by decide) rfl (Nat.le_of_ble_eq_true rfl) vc ?_
    intro v3 h3 vc
    obtain ⟨hR3, vc⟩ := vc
    replace hR := hR3.trans hR
    refine gnI1 MX11_inTrust dX9_fearOf_48 (fun h9 => h9.2.1) kX11_inTrust sX11_inTrust (Nat.le_of_ble_eq_true rfl) vc ?_
    intro v4 h4 vc
    obtain ⟨hR4, vc⟩ := vc
    replace hR := hR4.trans hR
    exact go_iret dX9_fearOf_51 rfl vc rfl (Nat.le_refl _) (Nat.le_refl _)
  · replace vc := vc.2 q
    refine go_bipush (v := 10) dX9_fearOf_14 rfl ?_
    refine go_aload_n (x := 29) dX9_fearOf_16 rfl ?_
    refine go_getR (x := lk) dX9_fearOf_17 f9_18 sh29 (fun _ _ => rfl) (rf29_2 hR) ?_
    refine go_iload_n (x := a2) dX9_fearOf_20 rfl ?_
    refine gvI1 MX4_depthOf dX9_fearOf_21 lX9_38 kX4_depthOf vX4_depthOf (slx hlk) (by decide) rfl (Nat.le_of_ble_eq_true rfl) vc ?_
    intro v5 h5 vc
    obtain ⟨hR5, vc⟩ := vc
    replace hR := hR5.trans hR
    refine go_imul dX9_fearOf_24 ?_
    exact go_iret dX9_fearOf_25 rfl vc rfl (Nat.le_refl _) (Nat.le_refl _)
set_option maxRecDepth 20000 in
theorem wX9_trustAfter_0 {p : Program} {l : Launch} {e : Env} {s : State} {m : MethodId} {args : Array Value} {below : List Frame} {meth : Method} {c : Code} {G : gG} {d : Nat} {Q : Option Value → gH → Prop} {h : gH} {lk sp : Nat} {cd : Option Nat} {a1 : Int32} {a2 : Int32} {a3 : Int32} {a4 : Int32} (hR : h.2.2 = gRF lk sp cd) (hlk : lk = 30 ∨ lk = 67) (hsp : sp = 30 ∨ sp = 67)  (vc : gC l G d MX2_trustOf [.ref 6, .int a1] h (rI fun v1 h1 => h1.2.2 = (h).2.2 ∧ ((v1 < a4 → gC l G d MX0_isTold [.ref (lk + 11), .int 2] h1 (rI fun v2 h2 => h2.2.2 = (h1).2.2 ∧ ((¬ v2 = 0 → gC l G d MX9_look [.ref 29, .int a1, .int a2, .int a3] h2 (rV fun h3 => h3.2.2 = (h2).2.2 ∧ gC l G d MX6_reckon [.ref 45, .ref (lk + 11), .int 2] (sI (sI h3 46 3 v1) 46 23 a4) (rI fun v4 h4 => h4.2.2 = ((sI (sI h3 46 3 v1) 46 23 a4)).2.2 ∧ gC l G d MX11_inTrust [.int v4] h4 (rI fun v5 h5 => h5.2.2 = (h4).2.2 ∧ Q (some (.int v5)) h5)))) ∧ (v2 = 0 → Q (some (.int v1)) h2)))) ∧ (¬ v1 < a4 → gC l G d MX0_isTold [.ref (lk + 11), .int 1] h1 (rI fun v6 h6 => h6.2.2 = (h1).2.2 ∧ ((¬ v6 = 0 → gC l G d MX9_look [.ref 29, .int a1, .int a2, .int a3] h6 (rV fun h7 => h7.2.2 = (h6).2.2 ∧ gC l G d MX6_reckon [.ref 45, .ref (lk + 11), .int 1] (sI (sI h7 46 3 v1) 46 23 a4) (rI fun v8 h8 => h8.2.2 = ((sI (sI h7 46 3 v1) 46 23 a4)).2.2 ∧ gC l G d MX11_inTrust [.int v8] h8 (rI fun v9 h9 => h9.2.2 = (h8).2.2 ∧ Q (some (.int v9)) h9)))) ∧ (v6 = 0 → Q (some (.int v1)) h6))))))) : gg p l e s m args below meth c G (d + 1) MX9_trustAfter Q 0 [some (.ref 29), some (.int a1), some (.int a2), some (.int a3), some (.int a4), none, none] [] h := by
  refine go_aload_n (x := 29) dX9_trustAfter_0 rfl ?_
  refine go_getR (x := 6) dX9_trustAfter_1 f9_22 sh29 (fun _ _ => rfl) (rf29_0 hR) ?_
  refine go_iload_n (x := a1) dX9_trustAfter_4 rfl ?_
  refine gvI1 MX2_trustOf dX9_trustAfter_5 lX9_53 kX2_trustOf vX2_trustOf sh6 (by decide) rfl (Nat.le_of_ble_eq_true rfl) vc ?_
  intro v1 h1 vc
  obtain ⟨hR1, vc⟩ := vc
  replace hR := hR1.trans hR
  refine go_istore dX9_trustAfter_8 (Nat.le_of_ble_eq_true rfl) ?_
  show gg p l e s m args below meth c G (d + 1) MX9_trustAfter Q 10 [some (.ref 29), some (.int a1), some (.int a2), some (.int a3), some (.int a4), some (.int v1), none] [] h1
  refine go_iload (x := a4) dX9_trustAfter_10 rfl ?_
  refine go_iload (x := v1) dX9_trustAfter_12 rfl ?_
  refine go_icmp_gt 21 dX9_trustAfter_14 rfl (fun q => ?_) (fun q => ?_)
  · replace vc := vc.1 q
    refine go_iconst (v := 2) dX9_trustAfter_21 rfl ?_
    refine go_istore dX9_trustAfter_22 (Nat.le_of_ble_eq_true rfl) ?_
    show gg p l e s m args below meth c G (d + 1) MX9_trustAfter Q 24 [some (.ref 29), some (.int a1), some (.int a2), some (.int a3), some (.int a4), some (.int v1), some (.int 2)] [] h1
    refine go_aload_n (x := 29) dX9_trustAfter_24 rfl ?_
    refine go_getR (x := lk) dX9_trustAfter_25 f9_18 sh29 (fun _ _ => rfl) (rf29_2 hR) ?_
    refine go_getR (x := (lk + 11)) dX9_trustAfter_28 f9_26 (slx hlk) (fun _ _ => rfl) (rl_s hR hlk (by decide)) ?_
    refine go_iload (x := 2) dX9_trustAfter_31 rfl ?_
    refine gvI1 MX0_isTold dX9_trustAfter_33 lX9_32 kX0_isTold vX0_isTold (sl11 hlk) (by decide) rfl (Nat.le_of_ble_eq_true rfl) vc ?_
    intro v2 h2 vc
    obtain ⟨hR2, vc⟩ := vc
    replace hR := hR2.trans hR
    refine go_if_ne 42 dX9_trustAfter_36 rfl (fun q => ?_) (fun q => ?_)
    · replace vc := vc.1 q
      refine go_aload_n (x := 29) dX9_trustAfter_42 rfl ?_
      refine go_iload_n (x := a1) dX9_trustAfter_43 rfl ?_
      refine go_iload_n (x := a2) dX9_trustAfter_44 rfl ?_
      refine go_iload_n (x := a3) dX9_trustAfter_45 rfl ?_
      refine gvV3 MX9_look dX9_trustAfter_46 lX9_42 kX9_look vX9_look sh29 (by decide) rfl (Nat.le_of_ble_eq_true rfl) vc ?_
      intro h3 vc
      obtain ⟨hR3, vc⟩ := vc
      replace hR := hR3.trans hR
      refine go_aload_n (x := 29) dX9_trustAfter_49 rfl ?_
      refine go_getR (x := 45) dX9_trustAfter_50 f9_12 sh29 (fun _ _ => rfl) (rf29_1 hR) ?_
      refine go_getR (x := 46) dX9_trustAfter_53 f9_58 sh45 (fun _ _ => rfl) (rf45_0 hR) ?_
      refine go_iconst (v := 3) dX9_trustAfter_56 rfl ?_
      refine go_iload (x := v1) dX9_trustAfter_57 rfl ?_
      refine go_iast dX9_trustAfter_59 sh46 (by unfold vp_in; decide) ?_
      refine go_aload_n (x := 29) dX9_trustAfter_60 rfl ?_
      refine go_getR (x := 45) dX9_trustAfter_61 f9_12 sh29 (fun _ _ => rfl) (rf29_1 hR) ?_
      refine go_getR (x := 46) dX9_trustAfter_64 f9_58 sh45 (fun _ _ => rfl) (rf45_0 hR) ?_
      refine go_bipush (v := 23) dX9_trustAfter_67 rfl ?_
      refine go_iload (x := a4) dX9_trustAfter_69 rfl ?_
      refine go_iast dX9_trustAfter_71 sh46 (by unfold vp_in; decide) ?_
      refine go_aload_n (x := 29) dX9_trustAfter_72 rfl ?_
      refine go_getR (x := 45) dX9_trustAfter_73 f9_12 sh29 (fun _ _ => rfl) (rf29_1 hR) ?_
      refine go_aload_n (x := 29) dX9_trustAfter_76 rfl ?_
      refine go_getR (x := lk) dX9_trustAfter_77 f9_18 sh29 (fun _ _ => rfl) (rf29_2 hR) ?_
      refine go_getR (x := (lk + 11)) dX9_trustAfter_80 f9_26 (slx hlk) (fun _ _ => rfl) (rl_s hR hlk (by decide)) ?_
      refine go_iload (x := 2) dX9_trustAfter_83 rfl ?_
      refine gvI2 MX6_reckon dX9_trustAfter_85 lX9_46 kX6_reckon vX6_reckon sh45 (by decide) rfl (Nat.le_of_ble_eq_true rfl) vc ?_
      intro v4 h4 vc
      obtain ⟨hR4, vc⟩ := vc
      replace hR := hR4.trans hR
      refine gnI1 MX11_inTrust dX9_trustAfter_88 (fun h9 => h9.2.1) kX11_inTrust sX11_inTrust (Nat.le_of_ble_eq_true rfl) vc ?_
      intro v5 h5 vc
      obtain ⟨hR5, vc⟩ := vc
      replace hR := hR5.trans hR
      exact go_iret dX9_trustAfter_91 rfl vc rfl (Nat.le_refl _) (Nat.le_refl _)
    · replace vc := vc.2 q
      refine go_iload (x := v1) dX9_trustAfter_39 rfl ?_
      exact go_iret dX9_trustAfter_41 rfl vc rfl (Nat.le_refl _) (Nat.le_refl _)
  · replace vc := vc.2 q
    refine go_iconst (v := 1) dX9_trustAfter_17 rfl ?_
    refine go_goto 22 dX9_trustAfter_18 rfl ?_
    refine go_istore dX9_trustAfter_22 (Nat.le_of_ble_eq_true rfl) ?_
    show gg p l e s m args below meth c G (d + 1) MX9_trustAfter Q 24 [some (.ref 29), some (.int a1), some (.int a2), some (.int a3), some (.int a4), some (.int v1), some (.int 1)] [] h1
    refine go_aload_n (x := 29) dX9_trustAfter_24 rfl ?_
    refine go_getR (x := lk) dX9_trustAfter_25 f9_18 sh29 (fun _ _ => rfl) (rf29_2 hR) ?_
    refine go_getR (x := (lk + 11)) dX9_trustAfter_28 f9_26 (slx hlk) (fun _ _ => rfl) (rl_s hR hlk (by decide)) ?_
    refine go_iload (x := 1) dX9_trustAfter_31 rfl ?_
    refine gvI1 MX0_isTold dX9_trustAfter_33 lX9_32 kX0_isTold vX0_isTold (sl11 hlk) (by decide) rfl (Nat.le_of_ble_eq_true rfl) vc ?_
    intro v6 h6 vc
    obtain ⟨hR6, vc⟩ := vc
    replace hR := hR6.trans hR
    refine go_if_ne 42 dX9_trustAfter_36 rfl (fun q => ?_) (fun q => ?_)
    · replace vc := vc.1 q
      refine go_aload_n (x := 29) dX9_trustAfter_42 rfl ?_
      refine go_iload_n (x := a1) dX9_trustAfter_43 rfl ?_
      refine go_iload_n (x := a2) dX9_trustAfter_44 rfl ?_
      refine go_iload_n (x := a3) dX9_trustAfter_45 rfl ?_
      refine gvV3 MX9_look dX9_trustAfter_46 lX9_42 kX9_look vX9_look sh29 (by decide) rfl (Nat.le_of_ble_eq_true rfl) vc ?_
      intro h7 vc
      obtain ⟨hR7, vc⟩ := vc
      replace hR := hR7.trans hR
      refine go_aload_n (x := 29) dX9_trustAfter_49 rfl ?_
      refine go_getR (x := 45) dX9_trustAfter_50 f9_12 sh29 (fun _ _ => rfl) (rf29_1 hR) ?_
      refine go_getR (x := 46) dX9_trustAfter_53 f9_58 sh45 (fun _ _ => rfl) (rf45_0 hR) ?_
      refine go_iconst (v := 3) dX9_trustAfter_56 rfl ?_
      refine go_iload (x := v1) dX9_trustAfter_57 rfl ?_
      refine go_iast dX9_trustAfter_59 sh46 (by unfold vp_in; decide) ?_
      refine go_aload_n (x := 29) dX9_trustAfter_60 rfl ?_
      refine go_getR (x := 45) dX9_trustAfter_61 f9_12 sh29 (fun _ _ => rfl) (rf29_1 hR) ?_
      refine go_getR (x := 46) dX9_trustAfter_64 f9_58 sh45 (fun _ _ => rfl) (rf45_0 hR) ?_
      refine go_bipush (v := 23) dX9_trustAfter_67 rfl ?_
      refine go_iload (x := a4) dX9_trustAfter_69 rfl ?_
      refine go_iast dX9_trustAfter_71 sh46 (by unfold vp_in; decide) ?_
      refine go_aload_n (x := 29) dX9_trustAfter_72 rfl ?_
      refine go_getR (x := 45) dX9_trustAfter_73 f9_12 sh29 (fun _ _ => rfl) (rf29_1 hR) ?_
      refine go_aload_n (x := 29) dX9_trustAfter_76 rfl ?_
      refine go_getR (x := lk) dX9_trustAfter_77 f9_18 sh29 (fun _ _ => rfl) (rf29_2 hR) ?_
      refine go_getR (x := (lk + 11)) dX9_trustAfter_80 f9_26 (slx hlk) (fun _ _ => rfl) (rl_s hR hlk (by decide)) ?_
      refine go_iload (x := 1) dX9_trustAfter_83 rfl ?_
      refine gvI2 MX6_reckon dX9_trustAfter_85 lX9_46 kX6_reckon vX6_reckon sh45 (by decide) rfl (Nat.le_of_ble_eq_true rfl) vc ?_
      intro v8 h8 vc
      obtain ⟨hR8, vc⟩ := vc
      replace hR := hR8.trans hR
      refine gnI1 MX11_inTrust dX9_trustAfter_88 (fun h9 => h9.2.1) kX11_inTrust sX11_inTrust (Nat.le_of_ble_eq_true rfl) vc ?_
      intro v9 h9 vc
      obtain ⟨hR9, vc⟩ := vc
      replace hR := hR9.trans hR
      exact go_iret dX9_trustAfter_91 rfl vc rfl (Nat.le_refl _) (Nat.le_refl _)
    · replace vc := vc.2 q
      refine go_iload (x := v1) dX9_trustAfter_39 rfl ?_
      exact go_iret dX9_trustAfter_41 rfl vc rfl (Nat.le_refl _) (Nat.le_refl _)
set_option maxRecDepth 20000 in
theorem wX9_attempt_0 {p : Program} {l : Launch} {e : Env} {s : State} {m : MethodId} {args : Array Value} {below : List Frame} {meth : Method} {c : Code} {G : gG} {d : Nat} {Q : Option Value → gH → Prop} {h : gH} {lk sp : Nat} {cd : Option Nat} {a1 : Int32} {a2 : Int32} {a3 : Int32} (hR : h.2.2 = gRF lk sp cd) (hlk : lk = 30 ∨ lk = 67) (hsp : sp = 30 ∨ sp = 67)  (vc : gC l G d MX9_fearOf [.ref 29, .int a1, .int a2, .int a3] h (rI fun v1 h1 => h1.2.2 = (h).2.2 ∧ gC l G d MX2_trustOf [.ref 6, .int a1] h1 (rI fun v2 h2 => h2.2.2 = (h1).2.2 ∧ ((v2 < v1 → gC l G d MX9_trustAfter [.ref 29, .int a1, .int a2, .int a3, .int v1] h2 (rI fun v3 h3 => h3.2.2 = (h2).2.2 ∧ gC l G d MX2_setTrust [.ref 6, .int a1, .int v3] h3 (rV fun h4 => h4.2.2 = (h3).2.2 ∧ gC l G d MX2_balk [.ref 6, .int a1] h4 (rV fun h5 => h5.2.2 = (h4).2.2 ∧ gC l G d MX2_keep [.ref 6, .int a1, .int a2, .int 0] h5 (rV fun h6 => h6.2.2 = (h5).2.2 ∧ Q (some (.int 0)) h6))))) ∧ (¬ v2 < v1 → gC l G d MX9_trustAfter [.ref 29, .int a1, .int a2, .int a3, .int v1] h2 (rI fun v7 h7 => h7.2.2 = (h2).2.2 ∧ gC l G d MX2_setTrust [.ref 6, .int a1, .int v7] h7 (rV fun h8 => h8.2.2 = (h7).2.2 ∧ gC l G d MX2_move [.ref 6, .int a1, .int a2] h8 (rV fun h9 => h9.2.2 = (h8).2.2 ∧ gC l G d MX2_keep [.ref 6, .int a1, .int a2, .int 1] h9 (rV fun h10 => h10.2.2 = (h9).2.2 ∧ Q (some (.int 1)) h10))))))))) : gg p l e s m args below meth c G (d + 1) MX9_attempt Q 0 [some (.ref 29), some (.int a1), some (.int a2), some (.int a3), none, none] [] h := by
  refine go_aload_n (x := 29) dX9_attempt_0 rfl ?_
  refine go_iload_n (x := a1) dX9_attempt_1 rfl ?_
  refine go_iload_n (x := a2) dX9_attempt_2 rfl ?_
  refine go_iload_n (x := a3) dX9_attempt_3 rfl ?_
  refine gvI3 MX9_fearOf dX9_attempt_4 lX9_62 kX9_fearOf vX9_fearOf sh29 (by decide) rfl (Nat.le_of_ble_eq_true rfl) vc ?_
  intro v1 h1 vc
  obtain ⟨hR1, vc⟩ := vc
  replace hR := hR1.trans hR
  refine go_istore dX9_attempt_7 (Nat.le_of_ble_eq_true rfl) ?_
  show gg p l e s m args below meth c G (d + 1) MX9_attempt Q 9 [some (.ref 29), some (.int a1), some (.int a2), some (.int a3), some (.int v1), none] [] h1
  refine go_iload (x := v1) dX9_attempt_9 rfl ?_
  refine go_aload_n (x := 29) dX9_attempt_11 rfl ?_
  refine go_getR (x := 6) dX9_attempt_12 f9_22 sh29 (fun _ _ => rfl) (rf29_0 hR) ?_
  refine go_iload_n (x := a1) dX9_attempt_15 rfl ?_
  refine gvI1 MX2_trustOf dX9_attempt_16 lX9_53 kX2_trustOf vX2_trustOf sh6 (by decide) rfl (Nat.le_of_ble_eq_true rfl) vc ?_
  intro v2 h2 vc
  obtain ⟨hR2, vc⟩ := vc
  replace hR := hR2.trans hR
  refine go_icmp_gt 26 dX9_attempt_19 rfl (fun q => ?_) (fun q => ?_)
  · replace vc := vc.1 q
    refine go_iconst (v := 0) dX9_attempt_26 rfl ?_
    refine go_istore dX9_attempt_27 (Nat.le_of_ble_eq_true rfl) ?_
    show gg p l e s m args below meth c G (d + 1) MX9_attempt Q 29 [some (.ref 29), some (.int a1), some (.int a2), some (.int a3), some (.int v1), some (.int 0)] [] h2
    refine go_aload_n (x := 29) dX9_attempt_29 rfl ?_
    refine go_getR (x := 6) dX9_attempt_30 f9_22 sh29 (fun _ _ => rfl) (rf29_0 hR) ?_
    refine go_iload_n (x := a1) dX9_attempt_33 rfl ?_
    refine go_aload_n (x := 29) dX9_attempt_34 rfl ?_
    refine go_iload_n (x := a1) dX9_attempt_35 rfl ?_
    refine go_iload_n (x := a2) dX9_attempt_36 rfl ?_
    refine go_iload_n (x := a3) dX9_attempt_37 rfl ?_
    refine go_iload (x := v1) dX9_attempt_38 rfl ?_
    refine gvI4 MX9_trustAfter dX9_attempt_40 lX9_66 kX9_trustAfter vX9_trustAfter sh29 (by decide) rfl (Nat.le_of_ble_eq_true rfl) vc ?_
    intro v3 h3 vc
    obtain ⟨hR3, vc⟩ := vc
    replace hR := hR3.trans hR
    refine gvV2 MX2_setTrust dX9_attempt_43 lX9_70 kX2_setTrust vX2_setTrust sh6 (by decide) rfl (Nat.le_of_ble_eq_true rfl) vc ?_
    intro h4 vc
    obtain ⟨hR4, vc⟩ := vc
    replace hR := hR4.trans hR
    refine go_iload (x := 0) dX9_attempt_46 rfl ?_
    refine go_iconst (v := 1) dX9_attempt_48 rfl ?_
    refine go_icmp_ne 64 dX9_attempt_49 rfl (fun q => ?_) (fun q => absurd q (by decide))
    refine go_aload_n (x := 29) dX9_attempt_64 rfl ?_
    refine go_getR (x := 6) dX9_attempt_65 f9_22 sh29 (fun _ _ => rfl) (rf29_0 hR) ?_
    refine go_iload_n (x := a1) dX9_attempt_68 rfl ?_
    refine gvV1 MX2_balk dX9_attempt_69 lX9_77 kX2_balk vX2_balk sh6 (by decide) rfl (Nat.le_of_ble_eq_true rfl) vc ?_
    intro h5 vc
    obtain ⟨hR5, vc⟩ := vc
    replace hR := hR5.trans hR
    refine go_aload_n (x := 29) dX9_attempt_72 rfl ?_
    refine go_getR (x := 6) dX9_attempt_73 f9_22 sh29 (fun _ _ => rfl) (rf29_0 hR) ?_
    refine go_iload_n (x := a1) dX9_attempt_76 rfl ?_
    refine go_iload_n (x := a2) dX9_attempt_77 rfl ?_
    refine go_iload (x := 0) dX9_attempt_78 rfl ?_
    refine gvV3 MX2_keep dX9_attempt_80 lX9_81 kX2_keep vX2_keep sh6 (by decide) rfl (Nat.le_of_ble_eq_true rfl) vc ?_
    intro h6 vc
    obtain ⟨hR6, vc⟩ := vc
    replace hR := hR6.trans hR
    refine go_iload (x := 0) dX9_attempt_83 rfl ?_
    exact go_iret dX9_attempt_85 rfl vc rfl (Nat.le_refl _) (Nat.le_refl _)
  · replace vc := vc.2 q
    refine go_iconst (v := 1) dX9_attempt_22 rfl ?_
    refine go_goto 27 dX9_attempt_23 rfl ?_
    refine go_istore dX9_attempt_27 (Nat.le_of_ble_eq_true rfl) ?_
    show gg p l e s m args below meth c G (d + 1) MX9_attempt Q 29 [some (.ref 29), some (.int a1), some (.int a2), some (.int a3), some (.int v1), some (.int 1)] [] h2
    refine go_aload_n (x := 29) dX9_attempt_29 rfl ?_
    refine go_getR (x := 6) dX9_attempt_30 f9_22 sh29 (fun _ _ => rfl) (rf29_0 hR) ?_
    refine go_iload_n (x := a1) dX9_attempt_33 rfl ?_
    refine go_aload_n (x := 29) dX9_attempt_34 rfl ?_
    refine go_iload_n (x := a1) dX9_attempt_35 rfl ?_
    refine go_iload_n (x := a2) dX9_attempt_36 rfl ?_
    refine go_iload_n (x := a3) dX9_attempt_37 rfl ?_
    refine go_iload (x := v1) dX9_attempt_38 rfl ?_
    refine gvI4 MX9_trustAfter dX9_attempt_40 lX9_66 kX9_trustAfter vX9_trustAfter sh29 (by decide) rfl (Nat.le_of_ble_eq_true rfl) vc ?_
    intro v7 h7 vc
    obtain ⟨hR7, vc⟩ := vc
    replace hR := hR7.trans hR
    refine gvV2 MX2_setTrust dX9_attempt_43 lX9_70 kX2_setTrust vX2_setTrust sh6 (by decide) rfl (Nat.le_of_ble_eq_true rfl) vc ?_
    intro h8 vc
    obtain ⟨hR8, vc⟩ := vc
    replace hR := hR8.trans hR
    refine go_iload (x := 1) dX9_attempt_46 rfl ?_
    refine go_iconst (v := 1) dX9_attempt_48 rfl ?_
    refine go_icmp_ne 64 dX9_attempt_49 rfl (fun q => absurd q (by decide)) (fun q => ?_)
    refine go_aload_n (x := 29) dX9_attempt_52 rfl ?_
    refine go_getR (x := 6) dX9_attempt_53 f9_22 sh29 (fun _ _ => rfl) (rf29_0 hR) ?_
    refine go_iload_n (x := a1) dX9_attempt_56 rfl ?_
    refine go_iload_n (x := a2) dX9_attempt_57 rfl ?_
    refine gvV2 MX2_move dX9_attempt_58 lX9_74 kX2_move vX2_move sh6 (by decide) rfl (Nat.le_of_ble_eq_true rfl) vc ?_
    intro h9 vc
    obtain ⟨hR9, vc⟩ := vc
    replace hR := hR9.trans hR
    refine go_goto 72 dX9_attempt_61 rfl ?_
    refine go_aload_n (x := 29) dX9_attempt_72 rfl ?_
    refine go_getR (x := 6) dX9_attempt_73 f9_22 sh29 (fun _ _ => rfl) (rf29_0 hR) ?_
    refine go_iload_n (x := a1) dX9_attempt_76 rfl ?_
    refine go_iload_n (x := a2) dX9_attempt_77 rfl ?_
    refine go_iload (x := 1) dX9_attempt_78 rfl ?_
    refine gvV3 MX2_keep dX9_attempt_80 lX9_81 kX2_keep vX2_keep sh6 (by decide) rfl (Nat.le_of_ble_eq_true rfl) vc ?_
    intro h10 vc
    obtain ⟨hR10, vc⟩ := vc
    replace hR := hR10.trans hR
    refine go_iload (x := 1) dX9_attempt_83 rfl ?_
    exact go_iret dX9_attempt_85 rfl vc rfl (Nat.le_refl _) (Nat.le_refl _)
set_option maxRecDepth 20000 in
theorem wX9_coinsUpTo_0 {p : Program} {l : Launch} {e : Env} {s : State} {m : MethodId} {args : Array Value} {below : List Frame} {meth : Method} {c : Code} {G : gG} {d : Nat} {Q : Option Value → gH → Prop} {h : gH} {lk sp : Nat} {cd : Option Nat} {a1 : Int32} {a2 : Int32} (hR : h.2.2 = gRF lk sp cd) (hlk : lk = 30 ∨ lk = 67) (hsp : sp = 30 ∨ sp = 67)  (vc : gC l G d MX2_trustOf [.ref 6, .int a1] h (rI fun v1 h1 => h1.2.2 = (h).2.2 ∧ (((a2 - v1) ≤ 0 → Q (some (.int 0)) h1) ∧ (¬ (a2 - v1) ≤ 0 → ((1 ≤ (h1.1 lk 16) → (¬ (h1.1 lk 16) = 0 ∧ Q (some (.int ((((a2 - v1) + (h1.1 lk 16)) - 1) / (h1.1 lk 16)))) h1)) ∧ (¬ 1 ≤ (h1.1 lk 16) → Q (some (.int 0)) h1)))))) : gg p l e s m args below meth c G (d + 1) MX9_coinsUpTo Q 0 [some (.ref 29), some (.int a1), some (.int a2), none] [] h := by
  refine go_iload_n (x := a2) dX9_coinsUpTo_0 rfl ?_
  refine go_aload_n (x := 29) dX9_coinsUpTo_1 rfl ?_
  refine go_getR (x := 6) dX9_coinsUpTo_2 f9_22 sh29 (fun _ _ => rfl) (rf29_0 hR) ?_
  refine go_iload_n (x := a1) dX9_coinsUpTo_5 rfl ?_
  refine gvI1 MX2_trustOf dX9_coinsUpTo_6 lX9_53 kX2_trustOf vX2_trustOf sh6 (by decide) rfl (Nat.le_of_ble_eq_true rfl) vc ?_
  intro v1 h1 vc
  obtain ⟨hR1, vc⟩ := vc
  replace hR := hR1.trans hR
  refine go_isub dX9_coinsUpTo_9 ?_
  refine go_istore_n dX9_coinsUpTo_10 (Nat.le_of_ble_eq_true rfl) ?_
  show gg p l e s m args below meth c G (d + 1) MX9_coinsUpTo Q 11 [some (.ref 29), some (.int a1), some (.int a2), some (.int (a2 - v1))] [] h1
  refine go_iload_n (x := (a2 - v1)) dX9_coinsUpTo_11 rfl ?_
  refine go_if_le 26 dX9_coinsUpTo_12 rfl (fun q => ?_) (fun q => ?_)
  · replace vc := vc.1 q
    refine go_iconst (v := 0) dX9_coinsUpTo_26 rfl ?_
    exact go_iret dX9_coinsUpTo_27 rfl vc rfl (Nat.le_refl _) (Nat.le_refl _)
  · replace vc := vc.2 q
    refine go_aload_n (x := 29) dX9_coinsUpTo_15 rfl ?_
    refine go_getR (x := lk) dX9_coinsUpTo_16 f9_18 sh29 (fun _ _ => rfl) (rf29_2 hR) ?_
    refine go_getI' (v := (h1.1 lk 16)) dX9_coinsUpTo_19 f9_84 (slx hlk) (fun _ _ => rfl) rfl ?_
    refine go_iconst (v := 1) dX9_coinsUpTo_22 rfl ?_
    refine go_icmp_ge 28 dX9_coinsUpTo_23 rfl (fun q => ?_) (fun q => ?_)
    · replace vc := vc.1 q
      refine go_iload_n (x := (a2 - v1)) dX9_coinsUpTo_28 rfl ?_
      refine go_aload_n (x := 29) dX9_coinsUpTo_29 rfl ?_
      refine go_getR (x := lk) dX9_coinsUpTo_30 f9_18 sh29 (fun _ _ => rfl) (rf29_2 hR) ?_
      refine go_getI' (v := (h1.1 lk 16)) dX9_coinsUpTo_33 f9_84 (slx hlk) (fun _ _ => rfl) rfl ?_
      refine go_iadd dX9_coinsUpTo_36 ?_
      refine go_iconst (v := 1) dX9_coinsUpTo_37 rfl ?_
      refine go_isub dX9_coinsUpTo_38 ?_
      refine go_aload_n (x := 29) dX9_coinsUpTo_39 rfl ?_
      refine go_getR (x := lk) dX9_coinsUpTo_40 f9_18 sh29 (fun _ _ => rfl) (rf29_2 hR) ?_
      refine go_getI' (v := (h1.1 lk 16)) dX9_coinsUpTo_43 f9_84 (slx hlk) (fun _ _ => rfl) rfl ?_
      refine go_idiv dX9_coinsUpTo_46 vc.1 ?_
      have vc := vc.2
      exact go_iret dX9_coinsUpTo_47 rfl vc rfl (Nat.le_refl _) (Nat.le_refl _)
    · replace vc := vc.2 q
      refine go_iconst (v := 0) dX9_coinsUpTo_26 rfl ?_
      exact go_iret dX9_coinsUpTo_27 rfl vc rfl (Nat.le_refl _) (Nat.le_refl _)
set_option maxRecDepth 20000 in
theorem wX9_countCrowds_0 {p : Program} {l : Launch} {e : Env} {s : State} {m : MethodId} {args : Array Value} {below : List Frame} {meth : Method} {c : Code} {G : gG} {d : Nat} {Q : Option Value → gH → Prop} {h : gH} {lk sp : Nat} {cd : Option Nat}  (hR : h.2.2 = gRF lk sp cd) (hlk : lk = 30 ∨ lk = 67) (hsp : sp = 30 ∨ sp = 67)  (vc : gg p l e s m args below meth c G (d + 1) MX9_countCrowds Q 2 [some (.ref 29), some (.int 0)] [] h) : gg p l e s m args below meth c G (d + 1) MX9_countCrowds Q 0 [some (.ref 29), none] [] h := by
  refine go_iconst (v := 0) dX9_countCrowds_0 rfl ?_
  refine go_istore_n dX9_countCrowds_1 (Nat.le_of_ble_eq_true rfl) ?_
  show gg p l e s m args below meth c G (d + 1) MX9_countCrowds Q 2 [some (.ref 29), some (.int 0)] [] h
  exact vc
set_option maxRecDepth 20000 in
theorem wX9_countCrowds_2 {p : Program} {l : Launch} {e : Env} {s : State} {m : MethodId} {args : Array Value} {below : List Frame} {meth : Method} {c : Code} {G : gG} {d : Nat} {Q : Option Value → gH → Prop} {h : gH} {lk sp : Nat} {cd : Option Nat} {x1 : Int32} (hR : h.2.2 = gRF lk sp cd) (hlk : lk = 30 ∨ lk = 67) (hsp : sp = 30 ∨ sp = 67)  (vc : ((48 ≤ x1 → Q none h) ∧ (¬ 48 ≤ x1 → gC l G d MX2_bitsIn [.ref 6, .int x1] h (rI fun v1 h1 => h1.2.2 = (h).2.2 ∧ gC l G d MJ6_bitCount_0f7a4 [.int v1] h1 (rI fun v2 h2 => h2.2.2 = (h1).2.2 ∧ (vp_in x1 48 ∧ gg p l e s m args below meth c G (d + 1) MX9_countCrowds Q 2 [some (.ref 29), some (.int (x1 + 1))] [] (sI h2 47 x1.toNatClampNeg v2))))))) : gg p l e s m args below meth c G (d + 1) MX9_countCrowds Q 2 [some (.ref 29), some (.int x1)] [] h := by
  refine go_iload_n (x := x1) dX9_countCrowds_2 rfl ?_
  refine go_bipush (v := 48) dX9_countCrowds_3 rfl ?_
  refine go_icmp_ge 34 dX9_countCrowds_5 rfl (fun q => ?_) (fun q => ?_)
  · replace vc := vc.1 q
    exact go_vret dX9_countCrowds_34 rfl vc rfl (Nat.le_refl _) (Nat.le_refl _)
  · replace vc := vc.2 q
    refine go_aload_n (x := 29) dX9_countCrowds_8 rfl ?_
    refine go_getR (x := 45) dX9_countCrowds_9 f9_12 sh29 (fun _ _ => rfl) (rf29_1 hR) ?_
    refine go_getR (x := 47) dX9_countCrowds_12 f9_88 sh45 (fun _ _ => rfl) (rf45_1 hR) ?_
    refine go_iload_n (x := x1) dX9_countCrowds_15 rfl ?_
    refine go_aload_n (x := 29) dX9_countCrowds_16 rfl ?_
    refine go_getR (x := 6) dX9_countCrowds_17 f9_22 sh29 (fun _ _ => rfl) (rf29_0 hR) ?_
    refine go_iload_n (x := x1) dX9_countCrowds_20 rfl ?_
    refine gvI1 MX2_bitsIn dX9_countCrowds_21 lX9_91 kX2_bitsIn vX2_bitsIn sh6 (by decide) rfl (Nat.le_of_ble_eq_true rfl) vc ?_
    intro v1 h1 vc
    obtain ⟨hR1, vc⟩ := vc
    replace hR := hR1.trans hR
    refine gsI1 MJ6_bitCount_0f7a4 dX9_countCrowds_24 lX9_94 kJ6_bitCount_0f7a4 sJ6_bitCount_0f7a4 (Nat.le_of_ble_eq_true rfl) vc ?_
    intro v2 h2 vc
    obtain ⟨hR2, vc⟩ := vc
    replace hR := hR2.trans hR
    refine go_iast dX9_countCrowds_27 sh47 vc.1 ?_
    have vc := vc.2
    show gg p l e s m args below meth c G (d + 1) MX9_countCrowds Q 28 [some (.ref 29), some (.int x1)] [] (sI h2 47 x1.toNatClampNeg v2)
    refine go_iinc (x := x1) dX9_countCrowds_28 rfl ?_
    show gg p l e s m args below meth c G (d + 1) MX9_countCrowds Q 31 [some (.ref 29), some (.int (x1 + 1))] [] (sI h2 47 x1.toNatClampNeg v2)
    refine go_goto 2 dX9_countCrowds_31 rfl ?_
    exact vc
set_option maxRecDepth 20000 in
theorem wX9_answerFor_0 {p : Program} {l : Launch} {e : Env} {s : State} {m : MethodId} {args : Array Value} {below : List Frame} {meth : Method} {c : Code} {G : gG} {d : Nat} {Q : Option Value → gH → Prop} {h : gH} {lk sp : Nat} {cd : Option Nat} {cc : Nat} {a2 : Int32} {a3 : Int32} (hR : h.2.2 = gRF lk sp cd) (hlk : lk = 30 ∨ lk = 67) (hsp : sp = 30 ∨ sp = 67) (hcc : cc = 41 ∨ cc = 61 ∨ cc = 78) (vc : gC l G d MX4_isLand [.ref lk, .int a3] h (rI fun v1 h1 => h1.2.2 = (h).2.2 ∧ ((v1 = 0 → gC l G d MX9_fearOf [.ref 29, .int a2, .int a3, .int (-1)] h1 (rI fun v2 h2 => h2.2.2 = (h1).2.2 ∧ gC l G d MX9_look [.ref 29, .int a2, .int a3, .int (-1)] h2 (rV fun h3 => h3.2.2 = (h2).2.2 ∧ (¬ (if 1 < (h.1 lk 11) then (h.1 lk 11) else 1) = 0 ∧ (¬ (if 1 < (h.1 lk 11) then (h.1 lk 11) else 1) = 0 ∧ gC l G d MX2_trustOf [.ref 6, .int a2] (sI (sI (sI (sI h3 46 24 a3) 46 25 (a3 - a3 / (if 1 < (h.1 lk 11) then (h.1 lk 11) else 1) * (if 1 < (h.1 lk 11) then (h.1 lk 11) else 1))) 46 26 (a3 / (if 1 < (h.1 lk 11) then (h.1 lk 11) else 1))) 46 12 v2) (rI fun v4 h4 => h4.2.2 = ((sI (sI (sI (sI h3 46 24 a3) 46 25 (a3 - a3 / (if 1 < (h.1 lk 11) then (h.1 lk 11) else 1) * (if 1 < (h.1 lk 11) then (h.1 lk 11) else 1))) 46 26 (a3 / (if 1 < (h.1 lk 11) then (h.1 lk 11) else 1))) 46 12 v2)).2.2 ∧ gC l G d MX6_reckon [.ref 45, .ref cc, .int 0] (sI h4 46 3 v4) (rI fun v5 h5 => h5.2.2 = ((sI h4 46 3 v4)).2.2 ∧ Q (some (.int v5)) h5))))))) ∧ (¬ v1 = 0 → gC l G d MX9_look [.ref 29, .int a2, .int a3, .int (-1)] h1 (rV fun h6 => h6.2.2 = (h1).2.2 ∧ (¬ (if 1 < (h.1 lk 11) then (h.1 lk 11) else 1) = 0 ∧ (¬ (if 1 < (h.1 lk 11) then (h.1 lk 11) else 1) = 0 ∧ gC l G d MX2_trustOf [.ref 6, .int a2] (sI (sI (sI (sI h6 46 24 a3) 46 25 (a3 - a3 / (if 1 < (h.1 lk 11) then (h.1 lk 11) else 1) * (if 1 < (h.1 lk 11) then (h.1 lk 11) else 1))) 46 26 (a3 / (if 1 < (h.1 lk 11) then (h.1 lk 11) else 1))) 46 12 99) (rI fun v7 h7 => h7.2.2 = ((sI (sI (sI (sI h6 46 24 a3) 46 25 (a3 - a3 / (if 1 < (h.1 lk 11) then (h.1 lk 11) else 1) * (if 1 < (h.1 lk 11) then (h.1 lk 11) else 1))) 46 26 (a3 / (if 1 < (h.1 lk 11) then (h.1 lk 11) else 1))) 46 12 99)).2.2 ∧ gC l G d MX6_reckon [.ref 45, .ref cc, .int 0] (sI h7 46 3 v7) (rI fun v8 h8 => h8.2.2 = ((sI h7 46 3 v7)).2.2 ∧ Q (some (.int v8)) h8))))))))) : gg p l e s m args below meth c G (d + 1) MX9_answerFor Q 0 [some (.ref 29), some (.ref cc), some (.int a2), some (.int a3), none, none] [] h := by
  refine go_iconst (v := 1) dX9_answerFor_0 rfl ?_
  refine go_aload_n (x := 29) dX9_answerFor_1 rfl ?_
  refine go_getR (x := lk) dX9_answerFor_2 f9_18 sh29 (fun _ _ => rfl) (rf29_2 hR) ?_
  refine go_getI' (v := (h.1 lk 11)) dX9_answerFor_5 f9_99 (slx hlk) (fun _ _ => rfl) rfl ?_
  refine go_max dX9_answerFor_8 lX9_102 (Nat.le_of_ble_eq_true rfl) ?_
  refine go_istore dX9_answerFor_11 (Nat.le_of_ble_eq_true rfl) ?_
  show gg p l e s m args below meth c G (d + 1) MX9_answerFor Q 13 [some (.ref 29), some (.ref cc), some (.int a2), some (.int a3), some (.int (if 1 < (h.1 lk 11) then (h.1 lk 11) else 1)), none] [] h
  refine go_aload_n (x := 29) dX9_answerFor_13 rfl ?_
  refine go_getR (x := lk) dX9_answerFor_14 f9_18 sh29 (fun _ _ => rfl) (rf29_2 hR) ?_
  refine go_iload_n (x := a3) dX9_answerFor_17 rfl ?_
  refine gvI1 MX4_isLand dX9_answerFor_18 lX9_108 kX4_isLand vX4_isLand (slx hlk) (by decide) rfl (Nat.le_of_ble_eq_true rfl) vc ?_
  intro v1 h1 vc
  obtain ⟨hR1, vc⟩ := vc
  replace hR := hR1.trans hR
  refine go_if_eq 29 dX9_answerFor_21 rfl (fun q => ?_) (fun q => ?_)
  · replace vc := vc.1 q
    refine go_aload_n (x := 29) dX9_answerFor_29 rfl ?_
    refine go_iload_n (x := a2) dX9_answerFor_30 rfl ?_
    refine go_iload_n (x := a3) dX9_answerFor_31 rfl ?_
    refine go_iconst (v := (-1)) dX9_answerFor_32 rfl ?_
    refine gvI3 MX9_fearOf dX9_answerFor_33 lX9_62 kX9_fearOf vX9_fearOf sh29 (by decide) rfl (Nat.le_of_ble_eq_true rfl) vc ?_
    intro v2 h2 vc
    obtain ⟨hR2, vc⟩ := vc
    replace hR := hR2.trans hR
    refine go_istore dX9_answerFor_36 (Nat.le_of_ble_eq_true rfl) ?_
    show gg p l e s m args below meth c G (d + 1) MX9_answerFor Q 38 [some (.ref 29), some (.ref cc), some (.int a2), some (.int a3), some (.int (if 1 < (h.1 lk 11) then (h.1 lk 11) else 1)), some (.int v2)] [] h2
    refine go_aload_n (x := 29) dX9_answerFor_38 rfl ?_
    refine go_iload_n (x := a2) dX9_answerFor_39 rfl ?_
    refine go_iload_n (x := a3) dX9_answerFor_40 rfl ?_
    refine go_iconst (v := (-1)) dX9_answerFor_41 rfl ?_
    refine gvV3 MX9_look dX9_answerFor_42 lX9_42 kX9_look vX9_look sh29 (by decide) rfl (Nat.le_of_ble_eq_true rfl) vc ?_
    intro h3 vc
    obtain ⟨hR3, vc⟩ := vc
    replace hR := hR3.trans hR
    refine go_aload_n (x := 29) dX9_answerFor_45 rfl ?_
    refine go_getR (x := 45) dX9_answerFor_46 f9_12 sh29 (fun _ _ => rfl) (rf29_1 hR) ?_
    refine go_getR (x := 46) dX9_answerFor_49 f9_58 sh45 (fun _ _ => rfl) (rf45_0 hR) ?_
    refine go_bipush (v := 24) dX9_answerFor_52 rfl ?_
    refine go_iload_n (x := a3) dX9_answerFor_54 rfl ?_
    refine go_iast dX9_answerFor_55 sh46 (by unfold vp_in; decide) ?_
    refine go_aload_n (x := 29) dX9_answerFor_56 rfl ?_
    refine go_getR (x := 45) dX9_answerFor_57 f9_12 sh29 (fun _ _ => rfl) (rf29_1 hR) ?_
    refine go_getR (x := 46) dX9_answerFor_60 f9_58 sh45 (fun _ _ => rfl) (rf45_0 hR) ?_
    refine go_bipush (v := 25) dX9_answerFor_63 rfl ?_
    refine go_iload_n (x := a3) dX9_answerFor_65 rfl ?_
    refine go_iload (x := (if 1 < (h.1 lk 11) then (h.1 lk 11) else 1)) dX9_answerFor_66 rfl ?_
    refine go_irem dX9_answerFor_68 vc.1 ?_
    have vc := vc.2
    refine go_iast dX9_answerFor_69 sh46 (by unfold vp_in; decide) ?_
    refine go_aload_n (x := 29) dX9_answerFor_70 rfl ?_
    refine go_getR (x := 45) dX9_answerFor_71 f9_12 sh29 (fun _ _ => rfl) (rf29_1 hR) ?_
    refine go_getR (x := 46) dX9_answerFor_74 f9_58 sh45 (fun _ _ => rfl) (rf45_0 hR) ?_
    refine go_bipush (v := 26) dX9_answerFor_77 rfl ?_
    refine go_iload_n (x := a3) dX9_answerFor_79 rfl ?_
    refine go_iload (x := (if 1 < (h.1 lk 11) then (h.1 lk 11) else 1)) dX9_answerFor_80 rfl ?_
    refine go_idiv dX9_answerFor_82 vc.1 ?_
    have vc := vc.2
    refine go_iast dX9_answerFor_83 sh46 (by unfold vp_in; decide) ?_
    refine go_aload_n (x := 29) dX9_answerFor_84 rfl ?_
    refine go_getR (x := 45) dX9_answerFor_85 f9_12 sh29 (fun _ _ => rfl) (rf29_1 hR) ?_
    refine go_getR (x := 46) dX9_answerFor_88 f9_58 sh45 (fun _ _ => rfl) (rf45_0 hR) ?_
    refine go_bipush (v := 12) dX9_answerFor_91 rfl ?_
    refine go_iload (x := v2) dX9_answerFor_93 rfl ?_
    refine go_iast dX9_answerFor_95 sh46 (by unfold vp_in; decide) ?_
    refine go_aload_n (x := 29) dX9_answerFor_96 rfl ?_
    refine go_getR (x := 45) dX9_answerFor_97 f9_12 sh29 (fun _ _ => rfl) (rf29_1 hR) ?_
    refine go_getR (x := 46) dX9_answerFor_100 f9_58 sh45 (fun _ _ => rfl) (rf45_0 hR) ?_
    refine go_iconst (v := 3) dX9_answerFor_103 rfl ?_
    refine go_aload_n (x := 29) dX9_answerFor_104 rfl ?_
    refine go_getR (x := 6) dX9_answerFor_105 f9_22 sh29 (fun _ _ => rfl) (rf29_0 hR) ?_
    refine go_iload_n (x := a2) dX9_answerFor_108 rfl ?_
    refine gvI1 MX2_trustOf dX9_answerFor_109 lX9_53 kX2_trustOf vX2_trustOf sh6 (by decide) rfl (Nat.le_of_ble_eq_true rfl) vc ?_
    intro v4 h4 vc
    obtain ⟨hR4, vc⟩ := vc
    replace hR := hR4.trans hR
    refine go_iast dX9_answerFor_112 sh46 (by unfold vp_in; decide) ?_
    refine go_aload_n (x := 29) dX9_answerFor_113 rfl ?_
    refine go_getR (x := 45) dX9_answerFor_114 f9_12 sh29 (fun _ _ => rfl) (rf29_1 hR) ?_
    refine go_aload_n (x := cc) dX9_answerFor_117 rfl ?_
    refine go_iconst (v := 0) dX9_answerFor_118 rfl ?_
    refine gvI2 MX6_reckon dX9_answerFor_119 lX9_46 kX6_reckon vX6_reckon sh45 (by decide) rfl (Nat.le_of_ble_eq_true rfl) vc ?_
    intro v5 h5 vc
    obtain ⟨hR5, vc⟩ := vc
    replace hR := hR5.trans hR
    exact go_iret dX9_answerFor_122 rfl vc rfl (Nat.le_refl _) (Nat.le_refl _)
  · replace vc := vc.2 q
    refine go_bipush (v := 99) dX9_answerFor_24 rfl ?_
    refine go_goto 36 dX9_answerFor_26 rfl ?_
    refine go_istore dX9_answerFor_36 (Nat.le_of_ble_eq_true rfl) ?_
    show gg p l e s m args below meth c G (d + 1) MX9_answerFor Q 38 [some (.ref 29), some (.ref cc), some (.int a2), some (.int a3), some (.int (if 1 < (h.1 lk 11) then (h.1 lk 11) else 1)), some (.int 99)] [] h1
    refine go_aload_n (x := 29) dX9_answerFor_38 rfl ?_
    refine go_iload_n (x := a2) dX9_answerFor_39 rfl ?_
    refine go_iload_n (x := a3) dX9_answerFor_40 rfl ?_
    refine go_iconst (v := (-1)) dX9_answerFor_41 rfl ?_
    refine gvV3 MX9_look dX9_answerFor_42 lX9_42 kX9_look vX9_look sh29 (by decide) rfl (Nat.le_of_ble_eq_true rfl) vc ?_
    intro h6 vc
    obtain ⟨hR6, vc⟩ := vc
    replace hR := hR6.trans hR
    refine go_aload_n (x := 29) dX9_answerFor_45 rfl ?_
    refine go_getR (x := 45) dX9_answerFor_46 f9_12 sh29 (fun _ _ => rfl) (rf29_1 hR) ?_
    refine go_getR (x := 46) dX9_answerFor_49 f9_58 sh45 (fun _ _ => rfl) (rf45_0 hR) ?_
    refine go_bipush (v := 24) dX9_answerFor_52 rfl ?_
    refine go_iload_n (x := a3) dX9_answerFor_54 rfl ?_
    refine go_iast dX9_answerFor_55 sh46 (by unfold vp_in; decide) ?_
    refine go_aload_n (x := 29) dX9_answerFor_56 rfl ?_
    refine go_getR (x := 45) dX9_answerFor_57 f9_12 sh29 (fun _ _ => rfl) (rf29_1 hR) ?_
    refine go_getR (x := 46) dX9_answerFor_60 f9_58 sh45 (fun _ _ => rfl) (rf45_0 hR) ?_
    refine go_bipush (v := 25) dX9_answerFor_63 rfl ?_
    refine go_iload_n (x := a3) dX9_answerFor_65 rfl ?_
    refine go_iload (x := (if 1 < (h.1 lk 11) then (h.1 lk 11) else 1)) dX9_answerFor_66 rfl ?_
    refine go_irem dX9_answerFor_68 vc.1 ?_
    have vc := vc.2
    refine go_iast dX9_answerFor_69 sh46 (by unfold vp_in; decide) ?_
    refine go_aload_n (x := 29) dX9_answerFor_70 rfl ?_
    refine go_getR (x := 45) dX9_answerFor_71 f9_12 sh29 (fun _ _ => rfl) (rf29_1 hR) ?_
    refine go_getR (x := 46) dX9_answerFor_74 f9_58 sh45 (fun _ _ => rfl) (rf45_0 hR) ?_
    refine go_bipush (v := 26) dX9_answerFor_77 rfl ?_
    refine go_iload_n (x := a3) dX9_answerFor_79 rfl ?_
    refine go_iload (x := (if 1 < (h.1 lk 11) then (h.1 lk 11) else 1)) dX9_answerFor_80 rfl ?_
    refine go_idiv dX9_answerFor_82 vc.1 ?_
    have vc := vc.2
    refine go_iast dX9_answerFor_83 sh46 (by unfold vp_in; decide) ?_
    refine go_aload_n (x := 29) dX9_answerFor_84 rfl ?_
    refine go_getR (x := 45) dX9_answerFor_85 f9_12 sh29 (fun _ _ => rfl) (rf29_1 hR) ?_
    refine go_getR (x := 46) dX9_answerFor_88 f9_58 sh45 (fun _ _ => rfl) (rf45_0 hR) ?_
    refine go_bipush (v := 12) dX9_answerFor_91 rfl ?_
    refine go_iload (x := 99) dX9_answerFor_93 rfl ?_
    refine go_iast dX9_answerFor_95 sh46 (by unfold vp_in; decide) ?_
    refine go_aload_n (x := 29) dX9_answerFor_96 rfl ?_
    refine go_getR (x := 45) dX9_answerFor_97 f9_12 sh29 (fun _ _ => rfl) (rf29_1 hR) ?_
    refine go_getR (x := 46) dX9_answerFor_100 f9_58 sh45 (fun _ _ => rfl) (rf45_0 hR) ?_
    refine go_iconst (v := 3) dX9_answerFor_103 rfl ?_
    refine go_aload_n (x := 29) dX9_answerFor_104 rfl ?_
    refine go_getR (x := 6) dX9_answerFor_105 f9_22 sh29 (fun _ _ => rfl) (rf29_0 hR) ?_
    refine go_iload_n (x := a2) dX9_answerFor_108 rfl ?_
    refine gvI1 MX2_trustOf dX9_answerFor_109 lX9_53 kX2_trustOf vX2_trustOf sh6 (by decide) rfl (Nat.le_of_ble_eq_true rfl) vc ?_
    intro v7 h7 vc
    obtain ⟨hR7, vc⟩ := vc
    replace hR := hR7.trans hR
    refine go_iast dX9_answerFor_112 sh46 (by unfold vp_in; decide) ?_
    refine go_aload_n (x := 29) dX9_answerFor_113 rfl ?_
    refine go_getR (x := 45) dX9_answerFor_114 f9_12 sh29 (fun _ _ => rfl) (rf29_1 hR) ?_
    refine go_aload_n (x := cc) dX9_answerFor_117 rfl ?_
    refine go_iconst (v := 0) dX9_answerFor_118 rfl ?_
    refine gvI2 MX6_reckon dX9_answerFor_119 lX9_46 kX6_reckon vX6_reckon sh45 (by decide) rfl (Nat.le_of_ble_eq_true rfl) vc ?_
    intro v8 h8 vc
    obtain ⟨hR8, vc⟩ := vc
    replace hR := hR8.trans hR
    exact go_iret dX9_answerFor_122 rfl vc rfl (Nat.le_refl _) (Nat.le_refl _)
set_option maxRecDepth 20000 in
theorem wX9_look_0 {p : Program} {l : Launch} {e : Env} {s : State} {m : MethodId} {args : Array Value} {below : List Frame} {meth : Method} {c : Code} {G : gG} {d : Nat} {Q : Option Value → gH → Prop} {h : gH} {lk sp : Nat} {cd : Option Nat} {a1 : Int32} {a2 : Int32} {a3 : Int32} (hR : h.2.2 = gRF lk sp cd) (hlk : lk = 30 ∨ lk = 67) (hsp : sp = 30 ∨ sp = 67)  (vc : gC l G d MX4_depthOf [.ref lk, .int a2] h (rI fun v1 h1 => h1.2.2 = (h).2.2 ∧ gC l G d MX4_wreckIn [.ref lk, .int a2] (sI h1 46 16 v1) (rI fun v2 h2 => h2.2.2 = ((sI h1 46 16 v1)).2.2 ∧ gC l G d MX4_homeOf [.ref lk, .int a2] (sI h2 46 17 v2) (rI fun v3 h3 => h3.2.2 = ((sI h2 46 17 v2)).2.2 ∧ gC l G d MX2_hour [.ref 6] (sI h3 46 18 v3) (rI fun v4 h4 => h4.2.2 = ((sI h3 46 18 v3)).2.2 ∧ gC l G d MX4_skyAt [.ref lk, .int v4] h4 (rI fun v5 h5 => h5.2.2 = (h4).2.2 ∧ gC l G d MX2_balksOf [.ref 6, .int a1] (sI h5 46 19 v5) (rI fun v6 h6 => h6.2.2 = ((sI h5 46 19 v5)).2.2 ∧ gC l G d MX2_handOf [.ref 6, .int a1] (sI h6 46 20 v6) (rI fun v7 h7 => h7.2.2 = ((sI h6 46 20 v6)).2.2 ∧ gC l G d MX4_skillOf [.ref lk, .int v7] h7 (rI fun v8 h8 => h8.2.2 = (h7).2.2 ∧ ((¬ a3 = (-1) → ((¬ a3 = (-1) → Q none (sI (sI (sI h8 46 6 v8) 46 21 1) 46 22 a3)) ∧ (a3 = (-1) → Q none (sI (sI (sI h8 46 6 v8) 46 21 1) 46 22 0)))) ∧ (a3 = (-1) → ((¬ a3 = (-1) → Q none (sI (sI (sI h8 46 6 v8) 46 21 0) 46 22 a3)) ∧ (a3 = (-1) → Q none (sI (sI (sI h8 46 6 v8) 46 21 0) 46 22 0)))))))))))))) : gg p l e s m args below meth c G (d + 1) MX9_look Q 0 [some (.ref 29), some (.int a1), some (.int a2), some (.int a3), none] [] h := by
  refine go_aload_n (x := 29) dX9_look_0 rfl ?_
  refine go_getR (x := 45) dX9_look_1 f9_12 sh29 (fun _ _ => rfl) (rf29_1 hR) ?_
  refine go_getR (x := 46) dX9_look_4 f9_58 sh45 (fun _ _ => rfl) (rf45_0 hR) ?_
  refine go_astore dX9_look_7 (Nat.le_of_ble_eq_true rfl) ?_
  show gg p l e s m args below meth c G (d + 1) MX9_look Q 9 [some (.ref 29), some (.int a1), some (.int a2), some (.int a3), some (.ref 46)] [] h
  refine go_aload (x := 46) dX9_look_9 rfl ?_
  refine go_bipush (v := 16) dX9_look_11 rfl ?_
  refine go_aload_n (x := 29) dX9_look_13 rfl ?_
  refine go_getR (x := lk) dX9_look_14 f9_18 sh29 (fun _ _ => rfl) (rf29_2 hR) ?_
  refine go_iload_n (x := a2) dX9_look_17 rfl ?_
  refine gvI1 MX4_depthOf dX9_look_18 lX9_38 kX4_depthOf vX4_depthOf (slx hlk) (by decide) rfl (Nat.le_of_ble_eq_true rfl) vc ?_
  intro v1 h1 vc
  obtain ⟨hR1, vc⟩ := vc
  replace hR := hR1.trans hR
  refine go_iast dX9_look_21 sh46 (by unfold vp_in; decide) ?_
  refine go_aload (x := 46) dX9_look_22 rfl ?_
  refine go_bipush (v := 17) dX9_look_24 rfl ?_
  refine go_aload_n (x := 29) dX9_look_26 rfl ?_
  refine go_getR (x := lk) dX9_look_27 f9_18 sh29 (fun _ _ => rfl) (rf29_2 hR) ?_
  refine go_iload_n (x := a2) dX9_look_30 rfl ?_
  refine gvI1 MX4_wreckIn dX9_look_31 lX9_111 kX4_wreckIn vX4_wreckIn (slx hlk) (by decide) rfl (Nat.le_of_ble_eq_true rfl) vc ?_
  intro v2 h2 vc
  obtain ⟨hR2, vc⟩ := vc
  replace hR := hR2.trans hR
  refine go_iast dX9_look_34 sh46 (by unfold vp_in; decide) ?_
  refine go_aload (x := 46) dX9_look_35 rfl ?_
  refine go_bipush (v := 18) dX9_look_37 rfl ?_
  refine go_aload_n (x := 29) dX9_look_39 rfl ?_
  refine go_getR (x := lk) dX9_look_40 f9_18 sh29 (fun _ _ => rfl) (rf29_2 hR) ?_
  refine go_iload_n (x := a2) dX9_look_43 rfl ?_
  refine gvI1 MX4_homeOf dX9_look_44 lX9_114 kX4_homeOf vX4_homeOf (slx hlk) (by decide) rfl (Nat.le_of_ble_eq_true rfl) vc ?_
  intro v3 h3 vc
  obtain ⟨hR3, vc⟩ := vc
  replace hR := hR3.trans hR
  refine go_iast dX9_look_47 sh46 (by unfold vp_in; decide) ?_
  refine go_aload (x := 46) dX9_look_48 rfl ?_
  refine go_bipush (v := 19) dX9_look_50 rfl ?_
  refine go_aload_n (x := 29) dX9_look_52 rfl ?_
  refine go_getR (x := lk) dX9_look_53 f9_18 sh29 (fun _ _ => rfl) (rf29_2 hR) ?_
  refine go_aload_n (x := 29) dX9_look_56 rfl ?_
  refine go_getR (x := 6) dX9_look_57 f9_22 sh29 (fun _ _ => rfl) (rf29_0 hR) ?_
  refine gvI0 MX2_hour dX9_look_60 lX9_117 kX2_hour vX2_hour sh6 (by decide) rfl (Nat.le_of_ble_eq_true rfl) vc ?_
  intro v4 h4 vc
  obtain ⟨hR4, vc⟩ := vc
  replace hR := hR4.trans hR
  refine gvI1 MX4_skyAt dX9_look_63 lX9_121 kX4_skyAt vX4_skyAt (slx hlk) (by decide) rfl (Nat.le_of_ble_eq_true rfl) vc ?_
  intro v5 h5 vc
  obtain ⟨hR5, vc⟩ := vc
  replace hR := hR5.trans hR
  refine go_iast dX9_look_66 sh46 (by unfold vp_in; decide) ?_
  refine go_aload (x := 46) dX9_look_67 rfl ?_
  refine go_bipush (v := 20) dX9_look_69 rfl ?_
  refine go_aload_n (x := 29) dX9_look_71 rfl ?_
  refine go_getR (x := 6) dX9_look_72 f9_22 sh29 (fun _ _ => rfl) (rf29_0 hR) ?_
  refine go_iload_n (x := a1) dX9_look_75 rfl ?_
  refine gvI1 MX2_balksOf dX9_look_76 lX9_124 kX2_balksOf vX2_balksOf sh6 (by decide) rfl (Nat.le_of_ble_eq_true rfl) vc ?_
  intro v6 h6 vc
  obtain ⟨hR6, vc⟩ := vc
  replace hR := hR6.trans hR
  refine go_iast dX9_look_79 sh46 (by unfold vp_in; decide) ?_
  refine go_aload (x := 46) dX9_look_80 rfl ?_
  refine go_bipush (v := 6) dX9_look_82 rfl ?_
  refine go_aload_n (x := 29) dX9_look_84 rfl ?_
  refine go_getR (x := lk) dX9_look_85 f9_18 sh29 (fun _ _ => rfl) (rf29_2 hR) ?_
  refine go_aload_n (x := 29) dX9_look_88 rfl ?_
  refine go_getR (x := 6) dX9_look_89 f9_22 sh29 (fun _ _ => rfl) (rf29_0 hR) ?_
  refine go_iload_n (x := a1) dX9_look_92 rfl ?_
  refine gvI1 MX2_handOf dX9_look_93 lX9_127 kX2_handOf vX2_handOf sh6 (by decide) rfl (Nat.le_of_ble_eq_true rfl) vc ?_
  intro v7 h7 vc
  obtain ⟨hR7, vc⟩ := vc
  replace hR := hR7.trans hR
  refine gvI1 MX4_skillOf dX9_look_96 lX9_130 kX4_skillOf vX4_skillOf (slx hlk) (by decide) rfl (Nat.le_of_ble_eq_true rfl) vc ?_
  intro v8 h8 vc
  obtain ⟨hR8, vc⟩ := vc
  replace hR := hR8.trans hR
  refine go_iast dX9_look_99 sh46 (by unfold vp_in; decide) ?_
  refine go_aload (x := 46) dX9_look_100 rfl ?_
  refine go_bipush (v := 21) dX9_look_102 rfl ?_
  refine go_iload_n (x := a3) dX9_look_104 rfl ?_
  refine go_iconst (v := (-1)) dX9_look_105 rfl ?_
  refine go_icmp_ne 113 dX9_look_106 rfl (fun q => ?_) (fun q => ?_)
  · replace vc := vc.1 q
    refine go_iconst (v := 1) dX9_look_113 rfl ?_
    refine go_iast dX9_look_114 sh46 (by unfold vp_in; decide) ?_
    refine go_aload (x := 46) dX9_look_115 rfl ?_
    refine go_bipush (v := 22) dX9_look_117 rfl ?_
    refine go_iload_n (x := a3) dX9_look_119 rfl ?_
    refine go_iconst (v := (-1)) dX9_look_120 rfl ?_
    refine go_icmp_ne 128 dX9_look_121 rfl (fun q => ?_) (fun q => ?_)
    · replace vc := vc.1 q
      refine go_iload_n (x := a3) dX9_look_128 rfl ?_
      refine go_iast dX9_look_129 sh46 (by unfold vp_in; decide) ?_
      exact go_vret dX9_look_130 rfl vc rfl (Nat.le_refl _) (Nat.le_refl _)
    · replace vc := vc.2 q
      refine go_iconst (v := 0) dX9_look_124 rfl ?_
      refine go_goto 129 dX9_look_125 rfl ?_
      refine go_iast dX9_look_129 sh46 (by unfold vp_in; decide) ?_
      exact go_vret dX9_look_130 rfl vc rfl (Nat.le_refl _) (Nat.le_refl _)
  · replace vc := vc.2 q
    refine go_iconst (v := 0) dX9_look_109 rfl ?_
    refine go_goto 114 dX9_look_110 rfl ?_
    refine go_iast dX9_look_114 sh46 (by unfold vp_in; decide) ?_
    refine go_aload (x := 46) dX9_look_115 rfl ?_
    refine go_bipush (v := 22) dX9_look_117 rfl ?_
    refine go_iload_n (x := a3) dX9_look_119 rfl ?_
    refine go_iconst (v := (-1)) dX9_look_120 rfl ?_
    refine go_icmp_ne 128 dX9_look_121 rfl (fun q => ?_) (fun q => ?_)
    · replace vc := vc.1 q
      refine go_iload_n (x := a3) dX9_look_128 rfl ?_
      refine go_iast dX9_look_129 sh46 (by unfold vp_in; decide) ?_
      exact go_vret dX9_look_130 rfl vc rfl (Nat.le_refl _) (Nat.le_refl _)
    · replace vc := vc.2 q
      refine go_iconst (v := 0) dX9_look_124 rfl ?_
      refine go_goto 129 dX9_look_125 rfl ?_
      refine go_iast dX9_look_129 sh46 (by unfold vp_in; decide) ?_
      exact go_vret dX9_look_130 rfl vc rfl (Nat.le_refl _) (Nat.le_refl _)
set_option maxRecDepth 20000 in
theorem wX8_read_0 {p : Program} {l : Launch} {e : Env} {s : State} {m : MethodId} {args : Array Value} {below : List Frame} {meth : Method} {c : Code} {G : gG} {d : Nat} {Q : Option Value → gH → Prop} {h : gH} {lk sp : Nat} {cd : Option Nat} {a1 : Int32} {w2 n2 : Nat} {a3 : Int32} (hR : h.2.2 = gRF lk sp cd) (hlk : lk = 30 ∨ lk = 67) (hsp : sp = 30 ∨ sp = 67) (hw2 : gSH[w2]? = some (20, n2)) (vc : gC l G d MX4_isBoat [.ref lk, .int a1] h (rI fun v1 h1 => h1.2.2 = (h).2.2 ∧ ((v1 = 0 → Q (some (.int 0)) h1) ∧ (¬ v1 = 0 → ((a3 < 2 → Q (some (.int 0)) h1) ∧ (¬ a3 < 2 → ((40 < a3 → Q (some (.int 0)) h1) ∧ (¬ 40 < a3 → (((a3 - a3 / 2 * 2) = 0 → gg p l e s m args below meth c G (d + 1) MX8_read Q 36 [some (.ref 58), some (.int a1), some (.ref w2), some (.int a3), some (.int 0)] [] h1) ∧ (¬ (a3 - a3 / 2 * 2) = 0 → Q (some (.int 0)) h1)))))))))) : gg p l e s m args below meth c G (d + 1) MX8_read Q 0 [some (.ref 58), some (.int a1), some (.ref w2), some (.int a3), none] [] h := by
  refine go_aload_n (x := 58) dX8_read_0 rfl ?_
  refine go_getR (x := 29) dX8_read_1 f8_18 sh58 (fun _ _ => rfl) (rf58_0 hR) ?_
  refine go_getR (x := lk) dX8_read_4 f8_26 sh29 (fun _ _ => rfl) (rf29_2 hR) ?_
  refine go_iload_n (x := a1) dX8_read_7 rfl ?_
  refine gvI1 MX4_isBoat dX8_read_8 lX8_32 kX4_isBoat vX4_isBoat (slx hlk) (by decide) rfl (Nat.le_of_ble_eq_true rfl) vc ?_
  intro v1 h1 vc
  obtain ⟨hR1, vc⟩ := vc
  replace hR := hR1.trans hR
  refine go_if_eq 31 dX8_read_11 rfl (fun q => ?_) (fun q => ?_)
  · replace vc := vc.1 q
    refine go_iconst (v := 0) dX8_read_31 rfl ?_
    exact go_zret dX8_read_32 rfl (by decide) vc rfl (Nat.le_refl _) (Nat.le_refl _)
  · replace vc := vc.2 q
    refine go_iload_n (x := a3) dX8_read_14 rfl ?_
    refine go_iconst (v := 2) dX8_read_15 rfl ?_
    refine go_icmp_lt 31 dX8_read_16 rfl (fun q => ?_) (fun q => ?_)
    · replace vc := vc.1 q
      refine go_iconst (v := 0) dX8_read_31 rfl ?_
      exact go_zret dX8_read_32 rfl (by decide) vc rfl (Nat.le_refl _) (Nat.le_refl _)
    · replace vc := vc.2 q
      refine go_iload_n (x := a3) dX8_read_19 rfl ?_
      refine go_bipush (v := 40) dX8_read_20 rfl ?_
      refine go_icmp_gt 31 dX8_read_22 rfl (fun q => ?_) (fun q => ?_)
      · replace vc := vc.1 q
        refine go_iconst (v := 0) dX8_read_31 rfl ?_
        exact go_zret dX8_read_32 rfl (by decide) vc rfl (Nat.le_refl _) (Nat.le_refl _)
      · replace vc := vc.2 q
        refine go_iload_n (x := a3) dX8_read_25 rfl ?_
        refine go_iconst (v := 2) dX8_read_26 rfl ?_
        refine go_irem dX8_read_27 (by decide) ?_
        refine go_if_eq 33 dX8_read_28 rfl (fun q => ?_) (fun q => ?_)
        · replace vc := vc.1 q
          refine go_iconst (v := 0) dX8_read_33 rfl ?_
          refine go_istore dX8_read_34 (Nat.le_of_ble_eq_true rfl) ?_
          show gg p l e s m args below meth c G (d + 1) MX8_read Q 36 [some (.ref 58), some (.int a1), some (.ref w2), some (.int a3), some (.int 0)] [] h1
          exact vc
        · replace vc := vc.2 q
          refine go_iconst (v := 0) dX8_read_31 rfl ?_
          exact go_zret dX8_read_32 rfl (by decide) vc rfl (Nat.le_refl _) (Nat.le_refl _)
set_option maxRecDepth 20000 in
theorem wX8_read_36 {p : Program} {l : Launch} {e : Env} {s : State} {m : MethodId} {args : Array Value} {below : List Frame} {meth : Method} {c : Code} {G : gG} {d : Nat} {Q : Option Value → gH → Prop} {h : gH} {lk sp : Nat} {cd : Option Nat} {w2 n2 : Nat} {x1 : Int32} {x3 : Int32} {x4 : Int32} (hR : h.2.2 = gRF lk sp cd) (hlk : lk = 30 ∨ lk = 67) (hsp : sp = 30 ∨ sp = 67) (hw2 : gSH[w2]? = some (20, n2)) (vc : ((x3 ≤ (x4 + 1) → gg p l e s m args below meth c G (d + 1) MX8_read Q 103 [some (.ref 58), some (.int x1), some (.ref w2), some (.int x3), some (.int 0)] [] (sI (sI h 58 3 x1) 58 4 (x3 / 2))) ∧ (¬ x3 ≤ (x4 + 1) → (((Int32.ofNat n2) ≤ (x4 + 1) → gg p l e s m args below meth c G (d + 1) MX8_read Q 103 [some (.ref 58), some (.int x1), some (.ref w2), some (.int x3), some (.int 0)] [] (sI (sI h 58 3 x1) 58 4 (x3 / 2))) ∧ (¬ (Int32.ofNat n2) ≤ (x4 + 1) → (vp_in x4 n2 ∧ gC l G d MX4_isWater [.ref lk, .int (h.1 w2 x4.toNatClampNeg)] h (rI fun v1 h1 => h1.2.2 = (h).2.2 ∧ ((v1 = 0 → Q (some (.int 0)) h1) ∧ (¬ v1 = 0 → (vp_in ((x4 + 1)) n2 ∧ (((h1.1 w2 ((x4 + 1) : Int32).toNatClampNeg) ≤ 1 → gg p l e s m args below meth c G (d + 1) MX8_read Q 36 [some (.ref 58), some (.int x1), some (.ref w2), some (.int x3), some (.int (x4 + 2))] [] h1) ∧ (¬ (h1.1 w2 ((x4 + 1) : Int32).toNatClampNeg) ≤ 1 → Q (some (.int 0)) h1)))))))))))) : gg p l e s m args below meth c G (d + 1) MX8_read Q 36 [some (.ref 58), some (.int x1), some (.ref w2), some (.int x3), some (.int x4)] [] h := by
  refine go_iload (x := x4) dX8_read_36 rfl ?_
  refine go_iconst (v := 1) dX8_read_38 rfl ?_
  refine go_iadd dX8_read_39 ?_
  refine go_iload_n (x := x3) dX8_read_40 rfl ?_
  refine go_icmp_ge 88 dX8_read_41 rfl (fun q => ?_) (fun q => ?_)
  · replace vc := vc.1 q
    refine go_aload_n (x := 58) dX8_read_88 rfl ?_
    refine go_iload_n (x := x1) dX8_read_89 rfl ?_
    refine go_putI dX8_read_90 f8_41 sh58 rfl rfl ?_
    refine go_aload_n (x := 58) dX8_read_93 rfl ?_
    refine go_iload_n (x := x3) dX8_read_94 rfl ?_
    refine go_iconst (v := 2) dX8_read_95 rfl ?_
    refine go_idiv dX8_read_96 (by decide) ?_
    refine go_putI dX8_read_97 f8_22 sh58 rfl rfl ?_
    refine go_iconst (v := 0) dX8_read_100 rfl ?_
    refine go_istore dX8_read_101 (Nat.le_of_ble_eq_true rfl) ?_
    show gg p l e s m args below meth c G (d + 1) MX8_read Q 103 [some (.ref 58), some (.int x1), some (.ref w2), some (.int x3), some (.int 0)] [] (sI (sI h 58 3 x1) 58 4 (x3 / 2))
    exact vc
  · replace vc := vc.2 q
    refine go_iload (x := x4) dX8_read_44 rfl ?_
    refine go_iconst (v := 1) dX8_read_46 rfl ?_
    refine go_iadd dX8_read_47 ?_
    refine go_aload_n (x := w2) dX8_read_48 rfl ?_
    refine go_alen (v := (Int32.ofNat n2)) dX8_read_49 hw2 (by decide) rfl ?_
    refine go_icmp_ge 88 dX8_read_50 rfl (fun q => ?_) (fun q => ?_)
    · replace vc := vc.1 q
      refine go_aload_n (x := 58) dX8_read_88 rfl ?_
      refine go_iload_n (x := x1) dX8_read_89 rfl ?_
      refine go_putI dX8_read_90 f8_41 sh58 rfl rfl ?_
      refine go_aload_n (x := 58) dX8_read_93 rfl ?_
      refine go_iload_n (x := x3) dX8_read_94 rfl ?_
      refine go_iconst (v := 2) dX8_read_95 rfl ?_
      refine go_idiv dX8_read_96 (by decide) ?_
      refine go_putI dX8_read_97 f8_22 sh58 rfl rfl ?_
      refine go_iconst (v := 0) dX8_read_100 rfl ?_
      refine go_istore dX8_read_101 (Nat.le_of_ble_eq_true rfl) ?_
      show gg p l e s m args below meth c G (d + 1) MX8_read Q 103 [some (.ref 58), some (.int x1), some (.ref w2), some (.int x3), some (.int 0)] [] (sI (sI h 58 3 x1) 58 4 (x3 / 2))
      exact vc
    · replace vc := vc.2 q
      refine go_aload_n (x := 58) dX8_read_53 rfl ?_
      refine go_getR (x := 29) dX8_read_54 f8_18 sh58 (fun _ _ => rfl) (rf58_0 hR) ?_
      refine go_getR (x := lk) dX8_read_57 f8_26 sh29 (fun _ _ => rfl) (rf29_2 hR) ?_
      refine go_aload_n (x := w2) dX8_read_60 rfl ?_
      refine go_iload (x := x4) dX8_read_61 rfl ?_
      refine go_iald' (v := (h.1 w2 x4.toNatClampNeg)) dX8_read_63 hw2 vc.1 rfl ?_
      have vc := vc.2
      refine gvI1 MX4_isWater dX8_read_64 lX8_38 kX4_isWater vX4_isWater (slx hlk) (by decide) rfl (Nat.le_of_ble_eq_true rfl) vc ?_
      intro v1 h1 vc
      obtain ⟨hR1, vc⟩ := vc
      replace hR := hR1.trans hR
      refine go_if_eq 80 dX8_read_67 rfl (fun q => ?_) (fun q => ?_)
      · replace vc := vc.1 q
        refine go_iconst (v := 0) dX8_read_80 rfl ?_
        exact go_zret dX8_read_81 rfl (by decide) vc rfl (Nat.le_refl _) (Nat.le_refl _)
      · replace vc := vc.2 q
        refine go_aload_n (x := w2) dX8_read_70 rfl ?_
        refine go_iload (x := x4) dX8_read_71 rfl ?_
        refine go_iconst (v := 1) dX8_read_73 rfl ?_
        refine go_iadd dX8_read_74 ?_
        refine go_iald' (v := (h1.1 w2 ((x4 + 1) : Int32).toNatClampNeg)) dX8_read_75 hw2 vc.1 rfl ?_
        have vc := vc.2
        refine go_iconst (v := 1) dX8_read_76 rfl ?_
        refine go_icmp_le 82 dX8_read_77 rfl (fun q => ?_) (fun q => ?_)
        · replace vc := vc.1 q
          refine go_iinc (x := x4) dX8_read_82 rfl ?_
          show gg p l e s m args below meth c G (d + 1) MX8_read Q 85 [some (.ref 58), some (.int x1), some (.ref w2), some (.int x3), some (.int (x4 + 2))] [] h1
          refine go_goto 36 dX8_read_85 rfl ?_
          exact vc
        · replace vc := vc.2 q
          refine go_iconst (v := 0) dX8_read_80 rfl ?_
          exact go_zret dX8_read_81 rfl (by decide) vc rfl (Nat.le_refl _) (Nat.le_refl _)
set_option maxRecDepth 20000 in
theorem wX8_read_103 {p : Program} {l : Launch} {e : Env} {s : State} {m : MethodId} {args : Array Value} {below : List Frame} {meth : Method} {c : Code} {G : gG} {d : Nat} {Q : Option Value → gH → Prop} {h : gH} {lk sp : Nat} {cd : Option Nat} {w2 n2 : Nat} {x1 : Int32} {x3 : Int32} {x4 : Int32} (hR : h.2.2 = gRF lk sp cd) (hlk : lk = 30 ∨ lk = 67) (hsp : sp = 30 ∨ sp = 67) (hw2 : gSH[w2]? = some (20, n2)) (vc : (((h.1 58 4) ≤ x4 → Q (some (.int 1)) h) ∧ (¬ (h.1 58 4) ≤ x4 → ((20 ≤ x4 → Q (some (.int 1)) h) ∧ (¬ 20 ≤ x4 → (((Int32.ofNat n2) ≤ ((2 * x4) + 1) → Q (some (.int 1)) h) ∧ (¬ (Int32.ofNat n2) ≤ ((2 * x4) + 1) → (vp_in ((2 * x4)) n2 ∧ (vp_in x4 20 ∧ (vp_in (((2 * x4) + 1)) n2 ∧ (vp_in x4 20 ∧ gg p l e s m args below meth c G (d + 1) MX8_read Q 103 [some (.ref 58), some (.int x1), some (.ref w2), some (.int x3), some (.int (x4 + 1))] [] (sI (sI h 59 x4.toNatClampNeg (h.1 w2 ((2 * x4) : Int32).toNatClampNeg)) 60 x4.toNatClampNeg ((sI h 59 x4.toNatClampNeg (h.1 w2 ((2 * x4) : Int32).toNatClampNeg)).1 w2 (((2 * x4) + 1) : Int32).toNatClampNeg))))))))))))) : gg p l e s m args below meth c G (d + 1) MX8_read Q 103 [some (.ref 58), some (.int x1), some (.ref w2), some (.int x3), some (.int x4)] [] h := by
  refine go_iload (x := x4) dX8_read_103 rfl ?_
  refine go_aload_n (x := 58) dX8_read_105 rfl ?_
  refine go_getI' (v := (h.1 58 4)) dX8_read_106 f8_22 sh58 (fun _ _ => rfl) rfl ?_
  refine go_icmp_ge 164 dX8_read_109 rfl (fun q => ?_) (fun q => ?_)
  · replace vc := vc.1 q
    refine go_iconst (v := 1) dX8_read_164 rfl ?_
    exact go_zret dX8_read_165 rfl (by decide) vc rfl (Nat.le_refl _) (Nat.le_refl _)
  · replace vc := vc.2 q
    refine go_iload (x := x4) dX8_read_112 rfl ?_
    refine go_bipush (v := 20) dX8_read_114 rfl ?_
    refine go_icmp_ge 164 dX8_read_116 rfl (fun q => ?_) (fun q => ?_)
    · replace vc := vc.1 q
      refine go_iconst (v := 1) dX8_read_164 rfl ?_
      exact go_zret dX8_read_165 rfl (by decide) vc rfl (Nat.le_refl _) (Nat.le_refl _)
    · replace vc := vc.2 q
      refine go_iconst (v := 2) dX8_read_119 rfl ?_
      refine go_iload (x := x4) dX8_read_120 rfl ?_
      refine go_imul dX8_read_122 ?_
      refine go_iconst (v := 1) dX8_read_123 rfl ?_
      refine go_iadd dX8_read_124 ?_
      refine go_aload_n (x := w2) dX8_read_125 rfl ?_
      refine go_alen (v := (Int32.ofNat n2)) dX8_read_126 hw2 (by decide) rfl ?_
      refine go_icmp_ge 164 dX8_read_127 rfl (fun q => ?_) (fun q => ?_)
      · replace vc := vc.1 q
        refine go_iconst (v := 1) dX8_read_164 rfl ?_
        exact go_zret dX8_read_165 rfl (by decide) vc rfl (Nat.le_refl _) (Nat.le_refl _)
      · replace vc := vc.2 q
        refine go_aload_n (x := 58) dX8_read_130 rfl ?_
        refine go_getR (x := 59) dX8_read_131 f8_9 sh58 (fun _ _ => rfl) (rf58_1 hR) ?_
        refine go_iload (x := x4) dX8_read_134 rfl ?_
        refine go_aload_n (x := w2) dX8_read_136 rfl ?_
        refine go_iconst (v := 2) dX8_read_137 rfl ?_
        refine go_iload (x := x4) dX8_read_138 rfl ?_
        refine go_imul dX8_read_140 ?_
        refine go_iald' (v := (h.1 w2 ((2 * x4) : Int32).toNatClampNeg)) dX8_read_141 hw2 vc.1 rfl ?_
        have vc := vc.2
        refine go_iast dX8_read_142 sh59 vc.1 ?_
        have vc := vc.2
        show gg p l e s m args below meth c G (d + 1) MX8_read Q 143 [some (.ref 58), some (.int x1), some (.ref w2), some (.int x3), some (.int x4)] [] (sI h 59 x4.toNatClampNeg (h.1 w2 ((2 * x4) : Int32).toNatClampNeg))
        refine go_aload_n (x := 58) dX8_read_143 rfl ?_
        refine go_getR (x := 60) dX8_read_144 f8_15 sh58 (fun _ _ => rfl) (rf58_2 hR) ?_
        refine go_iload (x := x4) dX8_read_147 rfl ?_
        refine go_aload_n (x := w2) dX8_read_149 rfl ?_
        refine go_iconst (v := 2) dX8_read_150 rfl ?_
        refine go_iload (x := x4) dX8_read_151 rfl ?_
        refine go_imul dX8_read_153 ?_
        refine go_iconst (v := 1) dX8_read_154 rfl ?_
        refine go_iadd dX8_read_155 ?_
        refine go_iald' (v := ((sI h 59 x4.toNatClampNeg (h.1 w2 ((2 * x4) : Int32).toNatClampNeg)).1 w2 (((2 * x4) + 1) : Int32).toNatClampNeg)) dX8_read_156 hw2 vc.1 rfl ?_
        have vc := vc.2
        refine go_iast dX8_read_157 sh60 vc.1 ?_
        have vc := vc.2
        show gg p l e s m args below meth c G (d + 1) MX8_read Q 158 [some (.ref 58), some (.int x1), some (.ref w2), some (.int x3), some (.int x4)] [] (sI (sI h 59 x4.toNatClampNeg (h.1 w2 ((2 * x4) : Int32).toNatClampNeg)) 60 x4.toNatClampNeg ((sI h 59 x4.toNatClampNeg (h.1 w2 ((2 * x4) : Int32).toNatClampNeg)).1 w2 (((2 * x4) + 1) : Int32).toNatClampNeg))
        refine go_iinc (x := x4) dX8_read_158 rfl ?_
        show gg p l e s m args below meth c G (d + 1) MX8_read Q 161 [some (.ref 58), some (.int x1), some (.ref w2), some (.int x3), some (.int (x4 + 1))] [] (sI (sI h 59 x4.toNatClampNeg (h.1 w2 ((2 * x4) : Int32).toNatClampNeg)) 60 x4.toNatClampNeg ((sI h 59 x4.toNatClampNeg (h.1 w2 ((2 * x4) : Int32).toNatClampNeg)).1 w2 (((2 * x4) + 1) : Int32).toNatClampNeg))
        refine go_goto 103 dX8_read_161 rfl ?_
        exact vc
set_option maxRecDepth 20000 in
theorem wX8_findTrusts_0 {p : Program} {l : Launch} {e : Env} {s : State} {m : MethodId} {args : Array Value} {below : List Frame} {meth : Method} {c : Code} {G : gG} {d : Nat} {Q : Option Value → gH → Prop} {h : gH} {lk sp : Nat} {cd : Option Nat}  (hR : h.2.2 = gRF lk sp cd) (hlk : lk = 30 ∨ lk = 67) (hsp : sp = 30 ∨ sp = 67)  (vc : gg p l e s m args below meth c G (d + 1) MX8_findTrusts Q 13 [some (.ref 58), some (.int 0), none] [] (sI (sI h 58 5 0) 58 6 99)) : gg p l e s m args below meth c G (d + 1) MX8_findTrusts Q 0 [some (.ref 58), none, none] [] h := by
  refine go_aload_n (x := 58) dX8_findTrusts_0 rfl ?_
  refine go_iconst (v := 0) dX8_findTrusts_1 rfl ?_
  refine go_putI dX8_findTrusts_2 f8_44 sh58 rfl rfl ?_
  refine go_aload_n (x := 58) dX8_findTrusts_5 rfl ?_
  refine go_bipush (v := 99) dX8_findTrusts_6 rfl ?_
  refine go_putI dX8_findTrusts_8 f8_47 sh58 rfl rfl ?_
  refine go_iconst (v := 0) dX8_findTrusts_11 rfl ?_
  refine go_istore_n dX8_findTrusts_12 (Nat.le_of_ble_eq_true rfl) ?_
  show gg p l e s m args below meth c G (d + 1) MX8_findTrusts Q 13 [some (.ref 58), some (.int 0), none] [] (sI (sI h 58 5 0) 58 6 99)
  exact vc
set_option maxRecDepth 20000 in
theorem wX8_findTrusts_13 {p : Program} {l : Launch} {e : Env} {s : State} {m : MethodId} {args : Array Value} {below : List Frame} {meth : Method} {c : Code} {G : gG} {d : Nat} {Q : Option Value → gH → Prop} {h : gH} {lk sp : Nat} {cd : Option Nat} {x1 : Int32} (hR : h.2.2 = gRF lk sp cd) (hlk : lk = 30 ∨ lk = 67) (hsp : sp = 30 ∨ sp = 67)  (vc : (((h.1 58 4) ≤ x1 → Q (some (.int (if 0 < (((h.1 58 6) - (h.1 58 5)) + 1) then (((h.1 58 6) - (h.1 58 5)) + 1) else 0))) h) ∧ (¬ (h.1 58 4) ≤ x1 → ((20 ≤ x1 → Q (some (.int (if 0 < (((h.1 58 6) - (h.1 58 5)) + 1) then (((h.1 58 6) - (h.1 58 5)) + 1) else 0))) h) ∧ (¬ 20 ≤ x1 → (vp_in x1 20 ∧ gC l G d MX9_fearOf [.ref 29, .int (h.1 58 3), .int (h.1 59 x1.toNatClampNeg), .int (-1)] h (rI fun v1 h1 => h1.2.2 = (h).2.2 ∧ (vp_in x1 20 ∧ ((¬ (h1.1 60 x1.toNatClampNeg) = 1 → gg p l e s m args below meth c G (d + 1) MX8_findTrusts Q 13 [some (.ref 58), some (.int (x1 + 1)), none] [] (sI h1 58 6 (if (v1 - 1) < (h1.1 58 6) then (v1 - 1) else (h1.1 58 6)))) ∧ ((h1.1 60 x1.toNatClampNeg) = 1 → gg p l e s m args below meth c G (d + 1) MX8_findTrusts Q 13 [some (.ref 58), some (.int (x1 + 1)), none] [] (sI h1 58 5 (if (h1.1 58 5) < v1 then v1 else (h1.1 58 5))))))))))))) : gg p l e s m args below meth c G (d + 1) MX8_findTrusts Q 13 [some (.ref 58), some (.int x1), none] [] h := by
  refine go_iload_n (x := x1) dX8_findTrusts_13 rfl ?_
  refine go_aload_n (x := 58) dX8_findTrusts_14 rfl ?_
  refine go_getI' (v := (h.1 58 4)) dX8_findTrusts_15 f8_22 sh58 (fun _ _ => rfl) rfl ?_
  refine go_icmp_ge 91 dX8_findTrusts_18 rfl (fun q => ?_) (fun q => ?_)
  · replace vc := vc.1 q
    refine go_iconst (v := 0) dX8_findTrusts_91 rfl ?_
    refine go_aload_n (x := 58) dX8_findTrusts_92 rfl ?_
    refine go_getI' (v := (h.1 58 6)) dX8_findTrusts_93 f8_47 sh58 (fun _ _ => rfl) rfl ?_
    refine go_aload_n (x := 58) dX8_findTrusts_96 rfl ?_
    refine go_getI' (v := (h.1 58 5)) dX8_findTrusts_97 f8_44 sh58 (fun _ _ => rfl) rfl ?_
    refine go_isub dX8_findTrusts_100 ?_
    refine go_iconst (v := 1) dX8_findTrusts_101 rfl ?_
    refine go_iadd dX8_findTrusts_102 ?_
    refine go_max dX8_findTrusts_103 lX8_54 (Nat.le_of_ble_eq_true rfl) ?_
    exact go_iret dX8_findTrusts_106 rfl vc rfl (Nat.le_refl _) (Nat.le_refl _)
  · replace vc := vc.2 q
    refine go_iload_n (x := x1) dX8_findTrusts_21 rfl ?_
    refine go_bipush (v := 20) dX8_findTrusts_22 rfl ?_
    refine go_icmp_ge 91 dX8_findTrusts_24 rfl (fun q => ?_) (fun q => ?_)
    · replace vc := vc.1 q
      refine go_iconst (v := 0) dX8_findTrusts_91 rfl ?_
      refine go_aload_n (x := 58) dX8_findTrusts_92 rfl ?_
      refine go_getI' (v := (h.1 58 6)) dX8_findTrusts_93 f8_47 sh58 (fun _ _ => rfl) rfl ?_
      refine go_aload_n (x := 58) dX8_findTrusts_96 rfl ?_
      refine go_getI' (v := (h.1 58 5)) dX8_findTrusts_97 f8_44 sh58 (fun _ _ => rfl) rfl ?_
      refine go_isub dX8_findTrusts_100 ?_
      refine go_iconst (v := 1) dX8_findTrusts_101 rfl ?_
      refine go_iadd dX8_findTrusts_102 ?_
      refine go_max dX8_findTrusts_103 lX8_54 (Nat.le_of_ble_eq_true rfl) ?_
      exact go_iret dX8_findTrusts_106 rfl vc rfl (Nat.le_refl _) (Nat.le_refl _)
    · replace vc := vc.2 q
      refine go_aload_n (x := 58) dX8_findTrusts_27 rfl ?_
      refine go_getR (x := 29) dX8_findTrusts_28 f8_18 sh58 (fun _ _ => rfl) (rf58_0 hR) ?_
      refine go_aload_n (x := 58) dX8_findTrusts_31 rfl ?_
      refine go_getI' (v := (h.1 58 3)) dX8_findTrusts_32 f8_41 sh58 (fun _ _ => rfl) rfl ?_
      refine go_aload_n (x := 58) dX8_findTrusts_35 rfl ?_
      refine go_getR (x := 59) dX8_findTrusts_36 f8_9 sh58 (fun _ _ => rfl) (rf58_1 hR) ?_
      refine go_iload_n (x := x1) dX8_findTrusts_39 rfl ?_
      refine go_iald' (v := (h.1 59 x1.toNatClampNeg)) dX8_findTrusts_40 sh59 vc.1 rfl ?_
      have vc := vc.2
      refine go_iconst (v := (-1)) dX8_findTrusts_41 rfl ?_
      refine gvI3 MX9_fearOf dX8_findTrusts_42 lX8_50 kX9_fearOf vX9_fearOf sh29 (by decide) rfl (Nat.le_of_ble_eq_true rfl) vc ?_
      intro v1 h1 vc
      obtain ⟨hR1, vc⟩ := vc
      replace hR := hR1.trans hR
      refine go_istore_n dX8_findTrusts_45 (Nat.le_of_ble_eq_true rfl) ?_
      show gg p l e s m args below meth c G (d + 1) MX8_findTrusts Q 46 [some (.ref 58), some (.int x1), some (.int v1)] [] h1
      refine go_aload_n (x := 58) dX8_findTrusts_46 rfl ?_
      refine go_getR (x := 60) dX8_findTrusts_47 f8_15 sh58 (fun _ _ => rfl) (rf58_2 hR) ?_
      refine go_iload_n (x := x1) dX8_findTrusts_50 rfl ?_
      refine go_iald' (v := (h1.1 60 x1.toNatClampNeg)) dX8_findTrusts_51 sh60 vc.1 rfl ?_
      have vc := vc.2
      refine go_iconst (v := 1) dX8_findTrusts_52 rfl ?_
      refine go_icmp_ne 71 dX8_findTrusts_53 rfl (fun q => ?_) (fun q => ?_)
      · replace vc := vc.1 q
        refine go_aload_n (x := 58) dX8_findTrusts_71 rfl ?_
        refine go_aload_n (x := 58) dX8_findTrusts_72 rfl ?_
        refine go_getI' (v := (h1.1 58 6)) dX8_findTrusts_73 f8_47 sh58 (fun _ _ => rfl) rfl ?_
        refine go_iload_n (x := v1) dX8_findTrusts_76 rfl ?_
        refine go_iconst (v := 1) dX8_findTrusts_77 rfl ?_
        refine go_isub dX8_findTrusts_78 ?_
        refine go_min dX8_findTrusts_79 lX8_60 (Nat.le_of_ble_eq_true rfl) ?_
        refine go_putI dX8_findTrusts_82 f8_47 sh58 rfl rfl ?_
        refine go_iinc (x := x1) dX8_findTrusts_85 rfl ?_
        show gg p l e s m args below meth c G (d + 1) MX8_findTrusts Q 88 [some (.ref 58), some (.int (x1 + 1)), some (.int v1)] [] (sI h1 58 6 (if (v1 - 1) < (h1.1 58 6) then (v1 - 1) else (h1.1 58 6)))
        refine go_goto 13 dX8_findTrusts_88 rfl ?_
        refine go_weak (ls' := [some (.ref 58), some (.int (x1 + 1)), none]) ?_ vc
        exact (⟨rfl, ⟨rfl, trivial⟩⟩)
      · replace vc := vc.2 q
        refine go_aload_n (x := 58) dX8_findTrusts_56 rfl ?_
        refine go_aload_n (x := 58) dX8_findTrusts_57 rfl ?_
        refine go_getI' (v := (h1.1 58 5)) dX8_findTrusts_58 f8_44 sh58 (fun _ _ => rfl) rfl ?_
        refine go_iload_n (x := v1) dX8_findTrusts_61 rfl ?_
        refine go_max dX8_findTrusts_62 lX8_54 (Nat.le_of_ble_eq_true rfl) ?_
        refine go_putI dX8_findTrusts_65 f8_44 sh58 rfl rfl ?_
        refine go_goto 85 dX8_findTrusts_68 rfl ?_
        refine go_iinc (x := x1) dX8_findTrusts_85 rfl ?_
        show gg p l e s m args below meth c G (d + 1) MX8_findTrusts Q 88 [some (.ref 58), some (.int (x1 + 1)), some (.int v1)] [] (sI h1 58 5 (if (h1.1 58 5) < v1 then v1 else (h1.1 58 5)))
        refine go_goto 13 dX8_findTrusts_88 rfl ?_
        refine go_weak (ls' := [some (.ref 58), some (.int (x1 + 1)), none]) ?_ vc
        exact (⟨rfl, ⟨rfl, trivial⟩⟩)
set_option maxRecDepth 20000 in
theorem wX8_findNext_0 {p : Program} {l : Launch} {e : Env} {s : State} {m : MethodId} {args : Array Value} {below : List Frame} {meth : Method} {c : Code} {G : gG} {d : Nat} {Q : Option Value → gH → Prop} {h : gH} {lk sp : Nat} {cd : Option Nat}  (hR : h.2.2 = gRF lk sp cd) (hlk : lk = 30 ∨ lk = 67) (hsp : sp = 30 ∨ sp = 67)  (vc : gg p l e s m args below meth c G (d + 1) MX8_findNext Q 21 [some (.ref 58), some (.int (-1)), some (.int (((h.1 58 6) - (h.1 58 5)) + 1)), some (.int 0), none, none, none] [] (sI h 58 7 (-1))) : gg p l e s m args below meth c G (d + 1) MX8_findNext Q 0 [some (.ref 58), none, none, none, none, none, none] [] h := by
  refine go_iconst (v := (-1)) dX8_findNext_0 rfl ?_
  refine go_istore_n dX8_findNext_1 (Nat.le_of_ble_eq_true rfl) ?_
  show gg p l e s m args below meth c G (d + 1) MX8_findNext Q 2 [some (.ref 58), some (.int (-1)), none, none, none, none, none] [] h
  refine go_aload_n (x := 58) dX8_findNext_2 rfl ?_
  refine go_getI' (v := (h.1 58 6)) dX8_findNext_3 f8_47 sh58 (fun _ _ => rfl) rfl ?_
  refine go_aload_n (x := 58) dX8_findNext_6 rfl ?_
  refine go_getI' (v := (h.1 58 5)) dX8_findNext_7 f8_44 sh58 (fun _ _ => rfl) rfl ?_
  refine go_isub dX8_findNext_10 ?_
  refine go_iconst (v := 1) dX8_findNext_11 rfl ?_
  refine go_iadd dX8_findNext_12 ?_
  refine go_istore_n dX8_findNext_13 (Nat.le_of_ble_eq_true rfl) ?_
  show gg p l e s m args below meth c G (d + 1) MX8_findNext Q 14 [some (.ref 58), some (.int (-1)), some (.int (((h.1 58 6) - (h.1 58 5)) + 1)), none, none, none, none] [] h
  refine go_aload_n (x := 58) dX8_findNext_14 rfl ?_
  refine go_iconst (v := (-1)) dX8_findNext_15 rfl ?_
  refine go_putI dX8_findNext_16 f8_63 sh58 rfl rfl ?_
  refine go_iconst (v := 0) dX8_findNext_19 rfl ?_
  refine go_istore_n dX8_findNext_20 (Nat.le_of_ble_eq_true rfl) ?_
  show gg p l e s m args below meth c G (d + 1) MX8_findNext Q 21 [some (.ref 58), some (.int (-1)), some (.int (((h.1 58 6) - (h.1 58 5)) + 1)), some (.int 0), none, none, none] [] (sI h 58 7 (-1))
  exact vc
set_option maxRecDepth 20000 in
theorem wX8_findNext_21 {p : Program} {l : Launch} {e : Env} {s : State} {m : MethodId} {args : Array Value} {below : List Frame} {meth : Method} {c : Code} {G : gG} {d : Nat} {Q : Option Value → gH → Prop} {h : gH} {lk sp : Nat} {cd : Option Nat} {x1 : Int32} {x2 : Int32} {x3 : Int32} (hR : h.2.2 = gRF lk sp cd) (hlk : lk = 30 ∨ lk = 67) (hsp : sp = 30 ∨ sp = 67)  (vc : gC l G d MX4_cells [.ref lk] h (rI fun v1 h1 => h1.2.2 = (h).2.2 ∧ ((v1 ≤ x3 → Q (some (.int x1)) h1) ∧ (¬ v1 ≤ x3 → gC l G d MX4_isLand [.ref lk, .int x3] h1 (rI fun v2 h2 => h2.2.2 = (h1).2.2 ∧ ((v2 = 0 → gC l G d MX9_fearOf [.ref 29, .int (h2.1 58 3), .int x3, .int (-1)] h2 (rI fun v3 h3 => h3.2.2 = (h2).2.2 ∧ ((x1 = (-1) → gg p l e s m args below meth c G (d + 1) MX8_findNext Q 21 [some (.ref 58), some (.int x3), some (.int x2), some (.int (x3 + 1)), none, none, none] [] (sI h3 58 7 (if (if 0 < (((h3.1 58 6) - (if (h3.1 58 5) < v3 then v3 else (h3.1 58 5))) + 1) then (((h3.1 58 6) - (if (h3.1 58 5) < v3 then v3 else (h3.1 58 5))) + 1) else 0) < (x2 - (if 0 < (((h3.1 58 6) - (if (h3.1 58 5) < v3 then v3 else (h3.1 58 5))) + 1) then (((h3.1 58 6) - (if (h3.1 58 5) < v3 then v3 else (h3.1 58 5))) + 1) else 0)) then (x2 - (if 0 < (((h3.1 58 6) - (if (h3.1 58 5) < v3 then v3 else (h3.1 58 5))) + 1) then (((h3.1 58 6) - (if (h3.1 58 5) < v3 then v3 else (h3.1 58 5))) + 1) else 0)) else (if 0 < (((h3.1 58 6) - (if (h3.1 58 5) < v3 then v3 else (h3.1 58 5))) + 1) then (((h3.1 58 6) - (if (h3.1 58 5) < v3 then v3 else (h3.1 58 5))) + 1) else 0)))) ∧ (¬ x1 = (-1) → (((h3.1 58 7) ≤ (if (if 0 < (((h3.1 58 6) - (if (h3.1 58 5) < v3 then v3 else (h3.1 58 5))) + 1) then (((h3.1 58 6) - (if (h3.1 58 5) < v3 then v3 else (h3.1 58 5))) + 1) else 0) < (x2 - (if 0 < (((h3.1 58 6) - (if (h3.1 58 5) < v3 then v3 else (h3.1 58 5))) + 1) then (((h3.1 58 6) - (if (h3.1 58 5) < v3 then v3 else (h3.1 58 5))) + 1) else 0)) then (x2 - (if 0 < (((h3.1 58 6) - (if (h3.1 58 5) < v3 then v3 else (h3.1 58 5))) + 1) then (((h3.1 58 6) - (if (h3.1 58 5) < v3 then v3 else (h3.1 58 5))) + 1) else 0)) else (if 0 < (((h3.1 58 6) - (if (h3.1 58 5) < v3 then v3 else (h3.1 58 5))) + 1) then (((h3.1 58 6) - (if (h3.1 58 5) < v3 then v3 else (h3.1 58 5))) + 1) else 0)) → gg p l e s m args below meth c G (d + 1) MX8_findNext Q 21 [some (.ref 58), some (.int x1), some (.int x2), some (.int (x3 + 1)), none, none, none] [] h3) ∧ (¬ (h3.1 58 7) ≤ (if (if 0 < (((h3.1 58 6) - (if (h3.1 58 5) < v3 then v3 else (h3.1 58 5))) + 1) then (((h3.1 58 6) - (if (h3.1 58 5) < v3 then v3 else (h3.1 58 5))) + 1) else 0) < (x2 - (if 0 < (((h3.1 58 6) - (if (h3.1 58 5) < v3 then v3 else (h3.1 58 5))) + 1) then (((h3.1 58 6) - (if (h3.1 58 5) < v3 then v3 else (h3.1 58 5))) + 1) else 0)) then (x2 - (if 0 < (((h3.1 58 6) - (if (h3.1 58 5) < v3 then v3 else (h3.1 58 5))) + 1) then (((h3.1 58 6) - (if (h3.1 58 5) < v3 then v3 else (h3.1 58 5))) + 1) else 0)) else (if 0 < (((h3.1 58 6) - (if (h3.1 58 5) < v3 then v3 else (h3.1 58 5))) + 1) then (((h3.1 58 6) - (if (h3.1 58 5) < v3 then v3 else (h3.1 58 5))) + 1) else 0)) → gg p l e s m args below meth c G (d + 1) MX8_findNext Q 21 [some (.ref 58), some (.int x3), some (.int x2), some (.int (x3 + 1)), none, none, none] [] (sI h3 58 7 (if (if 0 < (((h3.1 58 6) - (if (h3.1 58 5) < v3 then v3 else (h3.1 58 5))) + 1) then (((h3.1 58 6) - (if (h3.1 58 5) < v3 then v3 else (h3.1 58 5))) + 1) else 0) < (x2 - (if 0 < (((h3.1 58 6) - (if (h3.1 58 5) < v3 then v3 else (h3.1 58 5))) + 1) then (((h3.1 58 6) - (if (h3.1 58 5) < v3 then v3 else (h3.1 58 5))) + 1) else 0)) then (x2 - (if 0 < (((h3.1 58 6) - (if (h3.1 58 5) < v3 then v3 else (h3.1 58 5))) + 1) then (((h3.1 58 6) - (if (h3.1 58 5) < v3 then v3 else (h3.1 58 5))) + 1) else 0)) else (if 0 < (((h3.1 58 6) - (if (h3.1 58 5) < v3 then v3 else (h3.1 58 5))) + 1) then (((h3.1 58 6) - (if (h3.1 58 5) < v3 then v3 else (h3.1 58 5))) + 1) else 0))))))))) ∧ (¬ v2 = 0 → gg p l e s m args below meth c G (d + 1) MX8_findNext Q 21 [some (.ref 58), some (.int x1), some (.int x2), some (.int (x3 + 1)), none, none, none] [] h2))))))) : gg p l e s m args below meth c G (d + 1) MX8_findNext Q 21 [some (.ref 58), some (.int x1), some (.int x2), some (.int x3), none, none, none] [] h := by
  refine go_iload_n (x := x3) dX8_findNext_21 rfl ?_
  refine go_aload_n (x := 58) dX8_findNext_22 rfl ?_
  refine go_getR (x := 29) dX8_findNext_23 f8_18 sh58 (fun _ _ => rfl) (rf58_0 hR) ?_
  refine go_getR (x := lk) dX8_findNext_26 f8_26 sh29 (fun _ _ => rfl) (rf29_2 hR) ?_
  refine gvI0 MX4_cells dX8_findNext_29 lX8_66 kX4_cells vX4_cells (slx hlk) (by decide) rfl (Nat.le_of_ble_eq_true rfl) vc ?_
  intro v1 h1 vc
  obtain ⟨hR1, vc⟩ := vc
  replace hR := hR1.trans hR
  refine go_icmp_ge 128 dX8_findNext_32 rfl (fun q => ?_) (fun q => ?_)
  · replace vc := vc.1 q
    refine go_iload_n (x := x1) dX8_findNext_128 rfl ?_
    exact go_iret dX8_findNext_129 rfl vc rfl (Nat.le_refl _) (Nat.le_refl _)
  · replace vc := vc.2 q
    refine go_aload_n (x := 58) dX8_findNext_35 rfl ?_
    refine go_getR (x := 29) dX8_findNext_36 f8_18 sh58 (fun _ _ => rfl) (rf58_0 hR) ?_
    refine go_getR (x := lk) dX8_findNext_39 f8_26 sh29 (fun _ _ => rfl) (rf29_2 hR) ?_
    refine go_iload_n (x := x3) dX8_findNext_42 rfl ?_
    refine gvI1 MX4_isLand dX8_findNext_43 lX8_69 kX4_isLand vX4_isLand (slx hlk) (by decide) rfl (Nat.le_of_ble_eq_true rfl) vc ?_
    intro v2 h2 vc
    obtain ⟨hR2, vc⟩ := vc
    replace hR := hR2.trans hR
    refine go_if_eq 52 dX8_findNext_46 rfl (fun q => ?_) (fun q => ?_)
    · replace vc := vc.1 q
      refine go_aload_n (x := 58) dX8_findNext_52 rfl ?_
      refine go_getR (x := 29) dX8_findNext_53 f8_18 sh58 (fun _ _ => rfl) (rf58_0 hR) ?_
      refine go_aload_n (x := 58) dX8_findNext_56 rfl ?_
      refine go_getI' (v := (h2.1 58 3)) dX8_findNext_57 f8_41 sh58 (fun _ _ => rfl) rfl ?_
      refine go_iload_n (x := x3) dX8_findNext_60 rfl ?_
      refine go_iconst (v := (-1)) dX8_findNext_61 rfl ?_
      refine gvI3 MX9_fearOf dX8_findNext_62 lX8_50 kX9_fearOf vX9_fearOf sh29 (by decide) rfl (Nat.le_of_ble_eq_true rfl) vc ?_
      intro v3 h3 vc
      obtain ⟨hR3, vc⟩ := vc
      replace hR := hR3.trans hR
      refine go_istore dX8_findNext_65 (Nat.le_of_ble_eq_true rfl) ?_
      show gg p l e s m args below meth c G (d + 1) MX8_findNext Q 67 [some (.ref 58), some (.int x1), some (.int x2), some (.int x3), some (.int v3), none, none] [] h3
      refine go_iconst (v := 0) dX8_findNext_67 rfl ?_
      refine go_aload_n (x := 58) dX8_findNext_68 rfl ?_
      refine go_getI' (v := (h3.1 58 6)) dX8_findNext_69 f8_47 sh58 (fun _ _ => rfl) rfl ?_
      refine go_aload_n (x := 58) dX8_findNext_72 rfl ?_
      refine go_getI' (v := (h3.1 58 5)) dX8_findNext_73 f8_44 sh58 (fun _ _ => rfl) rfl ?_
      refine go_iload (x := v3) dX8_findNext_76 rfl ?_
      refine go_max dX8_findNext_78 lX8_54 (Nat.le_of_ble_eq_true rfl) ?_
      refine go_isub dX8_findNext_81 ?_
      refine go_iconst (v := 1) dX8_findNext_82 rfl ?_
      refine go_iadd dX8_findNext_83 ?_
      refine go_max dX8_findNext_84 lX8_54 (Nat.le_of_ble_eq_true rfl) ?_
      refine go_istore dX8_findNext_87 (Nat.le_of_ble_eq_true rfl) ?_
      show gg p l e s m args below meth c G (d + 1) MX8_findNext Q 89 [some (.ref 58), some (.int x1), some (.int x2), some (.int x3), some (.int v3), some (.int (if 0 < (((h3.1 58 6) - (if (h3.1 58 5) < v3 then v3 else (h3.1 58 5))) + 1) then (((h3.1 58 6) - (if (h3.1 58 5) < v3 then v3 else (h3.1 58 5))) + 1) else 0)), none] [] h3
      refine go_iload (x := (if 0 < (((h3.1 58 6) - (if (h3.1 58 5) < v3 then v3 else (h3.1 58 5))) + 1) then (((h3.1 58 6) - (if (h3.1 58 5) < v3 then v3 else (h3.1 58 5))) + 1) else 0)) dX8_findNext_89 rfl ?_
      refine go_iload_n (x := x2) dX8_findNext_91 rfl ?_
      refine go_iload (x := (if 0 < (((h3.1 58 6) - (if (h3.1 58 5) < v3 then v3 else (h3.1 58 5))) + 1) then (((h3.1 58 6) - (if (h3.1 58 5) < v3 then v3 else (h3.1 58 5))) + 1) else 0)) dX8_findNext_92 rfl ?_
      refine go_isub dX8_findNext_94 ?_
      refine go_max dX8_findNext_95 lX8_54 (Nat.le_of_ble_eq_true rfl) ?_
      refine go_istore dX8_findNext_98 (Nat.le_of_ble_eq_true rfl) ?_
      show gg p l e s m args below meth c G (d + 1) MX8_findNext Q 100 [some (.ref 58), some (.int x1), some (.int x2), some (.int x3), some (.int v3), some (.int (if 0 < (((h3.1 58 6) - (if (h3.1 58 5) < v3 then v3 else (h3.1 58 5))) + 1) then (((h3.1 58 6) - (if (h3.1 58 5) < v3 then v3 else (h3.1 58 5))) + 1) else 0)), some (.int (if (if 0 < (((h3.1 58 6) - (if (h3.1 58 5) < v3 then v3 else (h3.1 58 5))) + 1) then (((h3.1 58 6) - (if (h3.1 58 5) < v3 then v3 else (h3.1 58 5))) + 1) else 0) < (x2 - (if 0 < (((h3.1 58 6) - (if (h3.1 58 5) < v3 then v3 else (h3.1 58 5))) + 1) then (((h3.1 58 6) - (if (h3.1 58 5) < v3 then v3 else (h3.1 58 5))) + 1) else 0)) then (x2 - (if 0 < (((h3.1 58 6) - (if (h3.1 58 5) < v3 then v3 else (h3.1 58 5))) + 1) then (((h3.1 58 6) - (if (h3.1 58 5) < v3 then v3 else (h3.1 58 5))) + 1) else 0)) else (if 0 < (((h3.1 58 6) - (if (h3.1 58 5) < v3 then v3 else (h3.1 58 5))) + 1) then (((h3.1 58 6) - (if (h3.1 58 5) < v3 then v3 else (h3.1 58 5))) + 1) else 0)))] [] h3
      refine go_iload_n (x := x1) dX8_findNext_100 rfl ?_
      refine go_iconst (v := (-1)) dX8_findNext_101 rfl ?_
      refine go_icmp_eq 114 dX8_findNext_102 rfl (fun q => ?_) (fun q => ?_)
      · replace vc := vc.1 q
        refine go_iload_n (x := x3) dX8_findNext_114 rfl ?_
        refine go_istore_n dX8_findNext_115 (Nat.le_of_ble_eq_true rfl) ?_
        show gg p l e s m args below meth c G (d + 1) MX8_findNext Q 116 [some (.ref 58), some (.int x3), some (.int x2), some (.int x3), some (.int v3), some (.int (if 0 < (((h3.1 58 6) - (if (h3.1 58 5) < v3 then v3 else (h3.1 58 5))) + 1) then (((h3.1 58 6) - (if (h3.1 58 5) < v3 then v3 else (h3.1 58 5))) + 1) else 0)), some (.int (if (if 0 < (((h3.1 58 6) - (if (h3.1 58 5) < v3 then v3 else (h3.1 58 5))) + 1) then (((h3.1 58 6) - (if (h3.1 58 5) < v3 then v3 else (h3.1 58 5))) + 1) else 0) < (x2 - (if 0 < (((h3.1 58 6) - (if (h3.1 58 5) < v3 then v3 else (h3.1 58 5))) + 1) then (((h3.1 58 6) - (if (h3.1 58 5) < v3 then v3 else (h3.1 58 5))) + 1) else 0)) then (x2 - (if 0 < (((h3.1 58 6) - (if (h3.1 58 5) < v3 then v3 else (h3.1 58 5))) + 1) then (((h3.1 58 6) - (if (h3.1 58 5) < v3 then v3 else (h3.1 58 5))) + 1) else 0)) else (if 0 < (((h3.1 58 6) - (if (h3.1 58 5) < v3 then v3 else (h3.1 58 5))) + 1) then (((h3.1 58 6) - (if (h3.1 58 5) < v3 then v3 else (h3.1 58 5))) + 1) else 0)))] [] h3
        refine go_aload_n (x := 58) dX8_findNext_116 rfl ?_
        refine go_iload (x := (if (if 0 < (((h3.1 58 6) - (if (h3.1 58 5) < v3 then v3 else (h3.1 58 5))) + 1) then (((h3.1 58 6) - (if (h3.1 58 5) < v3 then v3 else (h3.1 58 5))) + 1) else 0) < (x2 - (if 0 < (((h3.1 58 6) - (if (h3.1 58 5) < v3 then v3 else (h3.1 58 5))) + 1) then (((h3.1 58 6) - (if (h3.1 58 5) < v3 then v3 else (h3.1 58 5))) + 1) else 0)) then (x2 - (if 0 < (((h3.1 58 6) - (if (h3.1 58 5) < v3 then v3 else (h3.1 58 5))) + 1) then (((h3.1 58 6) - (if (h3.1 58 5) < v3 then v3 else (h3.1 58 5))) + 1) else 0)) else (if 0 < (((h3.1 58 6) - (if (h3.1 58 5) < v3 then v3 else (h3.1 58 5))) + 1) then (((h3.1 58 6) - (if (h3.1 58 5) < v3 then v3 else (h3.1 58 5))) + 1) else 0))) dX8_findNext_117 rfl ?_
        refine go_putI dX8_findNext_119 f8_63 sh58 rfl rfl ?_
        refine go_iinc (x := x3) dX8_findNext_122 rfl ?_
        show gg p l e s m args below meth c G (d + 1) MX8_findNext Q 125 [some (.ref 58), some (.int x3), some (.int x2), some (.int (x3 + 1)), some (.int v3), some (.int (if 0 < (((h3.1 58 6) - (if (h3.1 58 5) < v3 then v3 else (h3.1 58 5))) + 1) then (((h3.1 58 6) - (if (h3.1 58 5) < v3 then v3 else (h3.1 58 5))) + 1) else 0)), some (.int (if (if 0 < (((h3.1 58 6) - (if (h3.1 58 5) < v3 then v3 else (h3.1 58 5))) + 1) then (((h3.1 58 6) - (if (h3.1 58 5) < v3 then v3 else (h3.1 58 5))) + 1) else 0) < (x2 - (if 0 < (((h3.1 58 6) - (if (h3.1 58 5) < v3 then v3 else (h3.1 58 5))) + 1) then (((h3.1 58 6) - (if (h3.1 58 5) < v3 then v3 else (h3.1 58 5))) + 1) else 0)) then (x2 - (if 0 < (((h3.1 58 6) - (if (h3.1 58 5) < v3 then v3 else (h3.1 58 5))) + 1) then (((h3.1 58 6) - (if (h3.1 58 5) < v3 then v3 else (h3.1 58 5))) + 1) else 0)) else (if 0 < (((h3.1 58 6) - (if (h3.1 58 5) < v3 then v3 else (h3.1 58 5))) + 1) then (((h3.1 58 6) - (if (h3.1 58 5) < v3 then v3 else (h3.1 58 5))) + 1) else 0)))] [] (sI h3 58 7 (if (if 0 < (((h3.1 58 6) - (if (h3.1 58 5) < v3 then v3 else (h3.1 58 5))) + 1) then (((h3.1 58 6) - (if (h3.1 58 5) < v3 then v3 else (h3.1 58 5))) + 1) else 0) < (x2 - (if 0 < (((h3.1 58 6) - (if (h3.1 58 5) < v3 then v3 else (h3.1 58 5))) + 1) then (((h3.1 58 6) - (if (h3.1 58 5) < v3 then v3 else (h3.1 58 5))) + 1) else 0)) then (x2 - (if 0 < (((h3.1 58 6) - (if (h3.1 58 5) < v3 then v3 else (h3.1 58 5))) + 1) then (((h3.1 58 6) - (if (h3.1 58 5) < v3 then v3 else (h3.1 58 5))) + 1) else 0)) else (if 0 < (((h3.1 58 6) - (if (h3.1 58 5) < v3 then v3 else (h3.1 58 5))) + 1) then (((h3.1 58 6) - (if (h3.1 58 5) < v3 then v3 else (h3.1 58 5))) + 1) else 0)))
        refine go_goto 21 dX8_findNext_125 rfl ?_
        refine go_weak (ls' := [some (.ref 58), some (.int x3), some (.int x2), some (.int (x3 + 1)), none, none, none]) ?_ vc
        exact (⟨rfl, ⟨rfl, ⟨rfl, ⟨rfl, trivial⟩⟩⟩⟩)
      · replace vc := vc.2 q
        refine go_iload (x := (if (if 0 < (((h3.1 58 6) - (if (h3.1 58 5) < v3 then v3 else (h3.1 58 5))) + 1) then (((h3.1 58 6) - (if (h3.1 58 5) < v3 then v3 else (h3.1 58 5))) + 1) else 0) < (x2 - (if 0 < (((h3.1 58 6) - (if (h3.1 58 5) < v3 then v3 else (h3.1 58 5))) + 1) then (((h3.1 58 6) - (if (h3.1 58 5) < v3 then v3 else (h3.1 58 5))) + 1) else 0)) then (x2 - (if 0 < (((h3.1 58 6) - (if (h3.1 58 5) < v3 then v3 else (h3.1 58 5))) + 1) then (((h3.1 58 6) - (if (h3.1 58 5) < v3 then v3 else (h3.1 58 5))) + 1) else 0)) else (if 0 < (((h3.1 58 6) - (if (h3.1 58 5) < v3 then v3 else (h3.1 58 5))) + 1) then (((h3.1 58 6) - (if (h3.1 58 5) < v3 then v3 else (h3.1 58 5))) + 1) else 0))) dX8_findNext_105 rfl ?_
        refine go_aload_n (x := 58) dX8_findNext_107 rfl ?_
        refine go_getI' (v := (h3.1 58 7)) dX8_findNext_108 f8_63 sh58 (fun _ _ => rfl) rfl ?_
        refine go_icmp_ge 122 dX8_findNext_111 rfl (fun q => ?_) (fun q => ?_)
        · replace vc := vc.1 q
          refine go_iinc (x := x3) dX8_findNext_122 rfl ?_
          show gg p l e s m args below meth c G (d + 1) MX8_findNext Q 125 [some (.ref 58), some (.int x1), some (.int x2), some (.int (x3 + 1)), some (.int v3), some (.int (if 0 < (((h3.1 58 6) - (if (h3.1 58 5) < v3 then v3 else (h3.1 58 5))) + 1) then (((h3.1 58 6) - (if (h3.1 58 5) < v3 then v3 else (h3.1 58 5))) + 1) else 0)), some (.int (if (if 0 < (((h3.1 58 6) - (if (h3.1 58 5) < v3 then v3 else (h3.1 58 5))) + 1) then (((h3.1 58 6) - (if (h3.1 58 5) < v3 then v3 else (h3.1 58 5))) + 1) else 0) < (x2 - (if 0 < (((h3.1 58 6) - (if (h3.1 58 5) < v3 then v3 else (h3.1 58 5))) + 1) then (((h3.1 58 6) - (if (h3.1 58 5) < v3 then v3 else (h3.1 58 5))) + 1) else 0)) then (x2 - (if 0 < (((h3.1 58 6) - (if (h3.1 58 5) < v3 then v3 else (h3.1 58 5))) + 1) then (((h3.1 58 6) - (if (h3.1 58 5) < v3 then v3 else (h3.1 58 5))) + 1) else 0)) else (if 0 < (((h3.1 58 6) - (if (h3.1 58 5) < v3 then v3 else (h3.1 58 5))) + 1) then (((h3.1 58 6) - (if (h3.1 58 5) < v3 then v3 else (h3.1 58 5))) + 1) else 0)))] [] h3
          refine go_goto 21 dX8_findNext_125 rfl ?_
          refine go_weak (ls' := [some (.ref 58), some (.int x1), some (.int x2), some (.int (x3 + 1)), none, none, none]) ?_ vc
          exact (⟨rfl, ⟨rfl, ⟨rfl, ⟨rfl, trivial⟩⟩⟩⟩)
        · replace vc := vc.2 q
          refine go_iload_n (x := x3) dX8_findNext_114 rfl ?_
          refine go_istore_n dX8_findNext_115 (Nat.le_of_ble_eq_true rfl) ?_
          show gg p l e s m args below meth c G (d + 1) MX8_findNext Q 116 [some (.ref 58), some (.int x3), some (.int x2), some (.int x3), some (.int v3), some (.int (if 0 < (((h3.1 58 6) - (if (h3.1 58 5) < v3 then v3 else (h3.1 58 5))) + 1) then (((h3.1 58 6) - (if (h3.1 58 5) < v3 then v3 else (h3.1 58 5))) + 1) else 0)), some (.int (if (if 0 < (((h3.1 58 6) - (if (h3.1 58 5) < v3 then v3 else (h3.1 58 5))) + 1) then (((h3.1 58 6) - (if (h3.1 58 5) < v3 then v3 else (h3.1 58 5))) + 1) else 0) < (x2 - (if 0 < (((h3.1 58 6) - (if (h3.1 58 5) < v3 then v3 else (h3.1 58 5))) + 1) then (((h3.1 58 6) - (if (h3.1 58 5) < v3 then v3 else (h3.1 58 5))) + 1) else 0)) then (x2 - (if 0 < (((h3.1 58 6) - (if (h3.1 58 5) < v3 then v3 else (h3.1 58 5))) + 1) then (((h3.1 58 6) - (if (h3.1 58 5) < v3 then v3 else (h3.1 58 5))) + 1) else 0)) else (if 0 < (((h3.1 58 6) - (if (h3.1 58 5) < v3 then v3 else (h3.1 58 5))) + 1) then (((h3.1 58 6) - (if (h3.1 58 5) < v3 then v3 else (h3.1 58 5))) + 1) else 0)))] [] h3
          refine go_aload_n (x := 58) dX8_findNext_116 rfl ?_
          refine go_iload (x := (if (if 0 < (((h3.1 58 6) - (if (h3.1 58 5) < v3 then v3 else (h3.1 58 5))) + 1) then (((h3.1 58 6) - (if (h3.1 58 5) < v3 then v3 else (h3.1 58 5))) + 1) else 0) < (x2 - (if 0 < (((h3.1 58 6) - (if (h3.1 58 5) < v3 then v3 else (h3.1 58 5))) + 1) then (((h3.1 58 6) - (if (h3.1 58 5) < v3 then v3 else (h3.1 58 5))) + 1) else 0)) then (x2 - (if 0 < (((h3.1 58 6) - (if (h3.1 58 5) < v3 then v3 else (h3.1 58 5))) + 1) then (((h3.1 58 6) - (if (h3.1 58 5) < v3 then v3 else (h3.1 58 5))) + 1) else 0)) else (if 0 < (((h3.1 58 6) - (if (h3.1 58 5) < v3 then v3 else (h3.1 58 5))) + 1) then (((h3.1 58 6) - (if (h3.1 58 5) < v3 then v3 else (h3.1 58 5))) + 1) else 0))) dX8_findNext_117 rfl ?_
          refine go_putI dX8_findNext_119 f8_63 sh58 rfl rfl ?_
          refine go_iinc (x := x3) dX8_findNext_122 rfl ?_
          show gg p l e s m args below meth c G (d + 1) MX8_findNext Q 125 [some (.ref 58), some (.int x3), some (.int x2), some (.int (x3 + 1)), some (.int v3), some (.int (if 0 < (((h3.1 58 6) - (if (h3.1 58 5) < v3 then v3 else (h3.1 58 5))) + 1) then (((h3.1 58 6) - (if (h3.1 58 5) < v3 then v3 else (h3.1 58 5))) + 1) else 0)), some (.int (if (if 0 < (((h3.1 58 6) - (if (h3.1 58 5) < v3 then v3 else (h3.1 58 5))) + 1) then (((h3.1 58 6) - (if (h3.1 58 5) < v3 then v3 else (h3.1 58 5))) + 1) else 0) < (x2 - (if 0 < (((h3.1 58 6) - (if (h3.1 58 5) < v3 then v3 else (h3.1 58 5))) + 1) then (((h3.1 58 6) - (if (h3.1 58 5) < v3 then v3 else (h3.1 58 5))) + 1) else 0)) then (x2 - (if 0 < (((h3.1 58 6) - (if (h3.1 58 5) < v3 then v3 else (h3.1 58 5))) + 1) then (((h3.1 58 6) - (if (h3.1 58 5) < v3 then v3 else (h3.1 58 5))) + 1) else 0)) else (if 0 < (((h3.1 58 6) - (if (h3.1 58 5) < v3 then v3 else (h3.1 58 5))) + 1) then (((h3.1 58 6) - (if (h3.1 58 5) < v3 then v3 else (h3.1 58 5))) + 1) else 0)))] [] (sI h3 58 7 (if (if 0 < (((h3.1 58 6) - (if (h3.1 58 5) < v3 then v3 else (h3.1 58 5))) + 1) then (((h3.1 58 6) - (if (h3.1 58 5) < v3 then v3 else (h3.1 58 5))) + 1) else 0) < (x2 - (if 0 < (((h3.1 58 6) - (if (h3.1 58 5) < v3 then v3 else (h3.1 58 5))) + 1) then (((h3.1 58 6) - (if (h3.1 58 5) < v3 then v3 else (h3.1 58 5))) + 1) else 0)) then (x2 - (if 0 < (((h3.1 58 6) - (if (h3.1 58 5) < v3 then v3 else (h3.1 58 5))) + 1) then (((h3.1 58 6) - (if (h3.1 58 5) < v3 then v3 else (h3.1 58 5))) + 1) else 0)) else (if 0 < (((h3.1 58 6) - (if (h3.1 58 5) < v3 then v3 else (h3.1 58 5))) + 1) then (((h3.1 58 6) - (if (h3.1 58 5) < v3 then v3 else (h3.1 58 5))) + 1) else 0)))
          refine go_goto 21 dX8_findNext_125 rfl ?_
          refine go_weak (ls' := [some (.ref 58), some (.int x3), some (.int x2), some (.int (x3 + 1)), none, none, none]) ?_ vc
          exact (⟨rfl, ⟨rfl, ⟨rfl, ⟨rfl, trivial⟩⟩⟩⟩)
    · replace vc := vc.2 q
      refine go_goto 122 dX8_findNext_49 rfl ?_
      refine go_iinc (x := x3) dX8_findNext_122 rfl ?_
      show gg p l e s m args below meth c G (d + 1) MX8_findNext Q 125 [some (.ref 58), some (.int x1), some (.int x2), some (.int (x3 + 1)), none, none, none] [] h2
      refine go_goto 21 dX8_findNext_125 rfl ?_
      exact vc
