set_option maxRecDepth 20000 in
theorem wX7_isOneTooMany_0 {p : Program} {l : Launch} {e : Env} {s : State} {m : MethodId} {args : Array Value} {below : List Frame} {meth : Method} {c : Code} {G : gG} {d : Nat} {Q : Option Value → gH → Prop} {h : gH} {lk sp : Nat} {cd : Option Nat} {b : Nat} {a2 : Int32} (hR : h.2.2 = gRF lk sp cd) (hlk : lk = 30 ∨ lk = 67) (hsp : sp = 30 ∨ sp = 67) (hb : b = 30 ∨ b = 67) (vc : ((a2 = 1 → (((h.1 b 12) < 6 → Q (some (.int 0)) h) ∧ (¬ (h.1 b 12) < 6 → Q (some (.int 1)) h))) ∧ (a2 = 2 → (((h.1 b 13) < 6 → Q (some (.int 0)) h) ∧ (¬ (h.1 b 13) < 6 → Q (some (.int 1)) h))) ∧ (a2 = 5 → (((h.1 b 14) < 6 → Q (some (.int 0)) h) ∧ (¬ (h.1 b 14) < 6 → Q (some (.int 1)) h))) ∧ (a2 = 8 → (((h.1 b 15) < 10 → Q (some (.int 0)) h) ∧ (¬ (h.1 b 15) < 10 → Q (some (.int 1)) h))) ∧ (a2 = 9 → (((h.1 b 15) < 10 → Q (some (.int 0)) h) ∧ (¬ (h.1 b 15) < 10 → Q (some (.int 1)) h))) ∧ (a2 = 10 → (((h.1 b 15) < 10 → Q (some (.int 0)) h) ∧ (¬ (h.1 b 15) < 10 → Q (some (.int 1)) h))) ∧ (a2 = 11 → (((h.1 b 15) < 10 → Q (some (.int 0)) h) ∧ (¬ (h.1 b 15) < 10 → Q (some (.int 1)) h))) ∧ (a2 = 12 → gC l G d MX0_isTold [.ref (b + 11), .int (a2 - 12)] h (rI fun v1 h1 => h1.2.2 = (h).2.2 ∧ ((v1 = 0 ∨ v1 = 1) ∧ Q (some (.int v1)) h1))) ∧ (a2 = 13 → gC l G d MX0_isTold [.ref (b + 11), .int (a2 - 12)] h (rI fun v2 h2 => h2.2.2 = (h).2.2 ∧ ((v2 = 0 ∨ v2 = 1) ∧ Q (some (.int v2)) h2))) ∧ (a2 = 14 → gC l G d MX0_isTold [.ref (b + 11), .int (a2 - 12)] h (rI fun v3 h3 => h3.2.2 = (h).2.2 ∧ ((v3 = 0 ∨ v3 = 1) ∧ Q (some (.int v3)) h3))) ∧ (¬ a2 = 1 → ¬ a2 = 2 → ¬ a2 = 5 → ¬ a2 = 8 → ¬ a2 = 9 → ¬ a2 = 10 → ¬ a2 = 11 → ¬ a2 = 12 → ¬ a2 = 13 → ¬ a2 = 14 → Q (some (.int 0)) h))) : gg p l e s m args below meth c G (d + 1) MX7_isOneTooMany Q 0 [some (.ref b), some (.int a2)] [] h := by
  refine go_iload_n (x := a2) dX7_isOneTooMany_0 rfl ?_
  by_cases q0 : a2 = 1
  · refine go_tableIn (off := 71) 72 dX7_isOneTooMany_1 (by rw [q0]; decide) (by rw [q0]; decide) (by rw [q0]; rfl) rfl ?_
    replace vc := vc.1 q0
    refine go_aload_n (x := b) dX7_isOneTooMany_72 rfl ?_
    refine go_getI' (v := (h.1 b 12)) dX7_isOneTooMany_73 f7_95 (slx hb) (fun _ _ => rfl) rfl ?_
    refine go_bipush (v := 6) dX7_isOneTooMany_76 rfl ?_
    refine go_icmp_lt 85 dX7_isOneTooMany_78 rfl (fun q => ?_) (fun q => ?_)
    · replace vc := vc.1 q
      refine go_iconst (v := 0) dX7_isOneTooMany_85 rfl ?_
      exact go_zret dX7_isOneTooMany_86 rfl (by decide) vc rfl (Nat.le_refl _) (Nat.le_refl _)
    · replace vc := vc.2 q
      refine go_iconst (v := 1) dX7_isOneTooMany_81 rfl ?_
      refine go_goto 86 dX7_isOneTooMany_82 rfl ?_
      exact go_zret dX7_isOneTooMany_86 rfl (by decide) vc rfl (Nat.le_refl _) (Nat.le_refl _)
  by_cases q1 : a2 = 2
  · refine go_tableIn (off := 86) 87 dX7_isOneTooMany_1 (by rw [q1]; decide) (by rw [q1]; decide) (by rw [q1]; rfl) rfl ?_
    replace vc := vc.2.1 q1
    refine go_aload_n (x := b) dX7_isOneTooMany_87 rfl ?_
    refine go_getI' (v := (h.1 b 13)) dX7_isOneTooMany_88 f7_98 (slx hb) (fun _ _ => rfl) rfl ?_
    refine go_bipush (v := 6) dX7_isOneTooMany_91 rfl ?_
    refine go_icmp_lt 100 dX7_isOneTooMany_93 rfl (fun q => ?_) (fun q => ?_)
    · replace vc := vc.1 q
      refine go_iconst (v := 0) dX7_isOneTooMany_100 rfl ?_
      exact go_zret dX7_isOneTooMany_101 rfl (by decide) vc rfl (Nat.le_refl _) (Nat.le_refl _)
    · replace vc := vc.2 q
      refine go_iconst (v := 1) dX7_isOneTooMany_96 rfl ?_
      refine go_goto 101 dX7_isOneTooMany_97 rfl ?_
      exact go_zret dX7_isOneTooMany_101 rfl (by decide) vc rfl (Nat.le_refl _) (Nat.le_refl _)
  by_cases q2 : a2 = 5
  · refine go_tableIn (off := 101) 102 dX7_isOneTooMany_1 (by rw [q2]; decide) (by rw [q2]; decide) (by rw [q2]; rfl) rfl ?_
    replace vc := vc.2.2.1 q2
    refine go_aload_n (x := b) dX7_isOneTooMany_102 rfl ?_
    refine go_getI' (v := (h.1 b 14)) dX7_isOneTooMany_103 f7_101 (slx hb) (fun _ _ => rfl) rfl ?_
    refine go_bipush (v := 6) dX7_isOneTooMany_106 rfl ?_
    refine go_icmp_lt 115 dX7_isOneTooMany_108 rfl (fun q => ?_) (fun q => ?_)
    · replace vc := vc.1 q
      refine go_iconst (v := 0) dX7_isOneTooMany_115 rfl ?_
      exact go_zret dX7_isOneTooMany_116 rfl (by decide) vc rfl (Nat.le_refl _) (Nat.le_refl _)
    · replace vc := vc.2 q
      refine go_iconst (v := 1) dX7_isOneTooMany_111 rfl ?_
      refine go_goto 116 dX7_isOneTooMany_112 rfl ?_
      exact go_zret dX7_isOneTooMany_116 rfl (by decide) vc rfl (Nat.le_refl _) (Nat.le_refl _)
  by_cases q3 : a2 = 8
  · refine go_tableIn (off := 116) 117 dX7_isOneTooMany_1 (by rw [q3]; decide) (by rw [q3]; decide) (by rw [q3]; rfl) rfl ?_
    replace vc := vc.2.2.2.1 q3
    refine go_aload_n (x := b) dX7_isOneTooMany_117 rfl ?_
    refine go_getI' (v := (h.1 b 15)) dX7_isOneTooMany_118 f7_104 (slx hb) (fun _ _ => rfl) rfl ?_
    refine go_bipush (v := 10) dX7_isOneTooMany_121 rfl ?_
    refine go_icmp_lt 130 dX7_isOneTooMany_123 rfl (fun q => ?_) (fun q => ?_)
    · replace vc := vc.1 q
      refine go_iconst (v := 0) dX7_isOneTooMany_130 rfl ?_
      exact go_zret dX7_isOneTooMany_131 rfl (by decide) vc rfl (Nat.le_refl _) (Nat.le_refl _)
    · replace vc := vc.2 q
      refine go_iconst (v := 1) dX7_isOneTooMany_126 rfl ?_
      refine go_goto 131 dX7_isOneTooMany_127 rfl ?_
      exact go_zret dX7_isOneTooMany_131 rfl (by decide) vc rfl (Nat.le_refl _) (Nat.le_refl _)
  by_cases q4 : a2 = 9
  · refine go_tableIn (off := 116) 117 dX7_isOneTooMany_1 (by rw [q4]; decide) (by rw [q4]; decide) (by rw [q4]; rfl) rfl ?_
    replace vc := vc.2.2.2.2.1 q4
    refine go_aload_n (x := b) dX7_isOneTooMany_117 rfl ?_
    refine go_getI' (v := (h.1 b 15)) dX7_isOneTooMany_118 f7_104 (slx hb) (fun _ _ => rfl) rfl ?_
    refine go_bipush (v := 10) dX7_isOneTooMany_121 rfl ?_
    refine go_icmp_lt 130 dX7_isOneTooMany_123 rfl (fun q => ?_) (fun q => ?_)
    · replace vc := vc.1 q
      refine go_iconst (v := 0) dX7_isOneTooMany_130 rfl ?_
      exact go_zret dX7_isOneTooMany_131 rfl (by decide) vc rfl (Nat.le_refl _) (Nat.le_refl _)
    · replace vc := vc.2 q
      refine go_iconst (v := 1) dX7_isOneTooMany_126 rfl ?_
      refine go_goto 131 dX7_isOneTooMany_127 rfl ?_
      exact go_zret dX7_isOneTooMany_131 rfl (by decide) vc rfl (Nat.le_refl _) (Nat.le_refl _)
  by_cases q5 : a2 = 10
  · refine go_tableIn (off := 116) 117 dX7_isOneTooMany_1 (by rw [q5]; decide) (by rw [q5]; decide) (by rw [q5]; rfl) rfl ?_
    replace vc := vc.2.2.2.2.2.1 q5
    refine go_aload_n (x := b) dX7_isOneTooMany_117 rfl ?_
    refine go_getI' (v := (h.1 b 15)) dX7_isOneTooMany_118 f7_104 (slx hb) (fun _ _ => rfl) rfl ?_
    refine go_bipush (v := 10) dX7_isOneTooMany_121 rfl ?_
    refine go_icmp_lt 130 dX7_isOneTooMany_123 rfl (fun q => ?_) (fun q => ?_)
    · replace vc := vc.1 q
      refine go_iconst (v := 0) dX7_isOneTooMany_130 rfl ?_
      exact go_zret dX7_isOneTooMany_131 rfl (by decide) vc rfl (Nat.le_refl _) (Nat.le_refl _)
    · replace vc := vc.2 q
      refine go_iconst (v := 1) dX7_isOneTooMany_126 rfl ?_
      refine go_goto 131 dX7_isOneTooMany_127 rfl ?_
      exact go_zret dX7_isOneTooMany_131 rfl (by decide) vc rfl (Nat.le_refl _) (Nat.le_refl _)
  by_cases q6 : a2 = 11
  · refine go_tableIn (off := 116) 117 dX7_isOneTooMany_1 (by rw [q6]; decide) (by rw [q6]; decide) (by rw [q6]; rfl) rfl ?_
    replace vc := vc.2.2.2.2.2.2.1 q6
    refine go_aload_n (x := b) dX7_isOneTooMany_117 rfl ?_
    refine go_getI' (v := (h.1 b 15)) dX7_isOneTooMany_118 f7_104 (slx hb) (fun _ _ => rfl) rfl ?_
    refine go_bipush (v := 10) dX7_isOneTooMany_121 rfl ?_
    refine go_icmp_lt 130 dX7_isOneTooMany_123 rfl (fun q => ?_) (fun q => ?_)
    · replace vc := vc.1 q
      refine go_iconst (v := 0) dX7_isOneTooMany_130 rfl ?_
      exact go_zret dX7_isOneTooMany_131 rfl (by decide) vc rfl (Nat.le_refl _) (Nat.le_refl _)
    · replace vc := vc.2 q
      refine go_iconst (v := 1) dX7_isOneTooMany_126 rfl ?_
      refine go_goto 131 dX7_isOneTooMany_127 rfl ?_
      exact go_zret dX7_isOneTooMany_131 rfl (by decide) vc rfl (Nat.le_refl _) (Nat.le_refl _)
  by_cases q7 : a2 = 12
  · refine go_tableIn (off := 131) 132 dX7_isOneTooMany_1 (by rw [q7]; decide) (by rw [q7]; decide) (by rw [q7]; rfl) rfl ?_
    replace vc := vc.2.2.2.2.2.2.2.1 q7
    refine go_aload_n (x := b) dX7_isOneTooMany_132 rfl ?_
    refine go_getR (x := (b + 11)) dX7_isOneTooMany_133 f7_78 (slx hb) (fun _ _ => rfl) (rl_s hR hb (by decide)) ?_
    refine go_iload_n (x := a2) dX7_isOneTooMany_136 rfl ?_
    refine go_bipush (v := 12) dX7_isOneTooMany_137 rfl ?_
    refine go_isub dX7_isOneTooMany_139 ?_
    refine gvI1 MX0_isTold dX7_isOneTooMany_140 lX7_107 kX0_isTold vX0_isTold (sl11 hb) (by decide) rfl (Nat.le_of_ble_eq_true rfl) vc ?_
    intro v1 h1 vc
    obtain ⟨hR1, vc⟩ := vc
    replace hR := hR1.trans hR
    exact go_zret dX7_isOneTooMany_143 rfl vc.1 vc.2 rfl (Nat.le_refl _) (Nat.le_refl _)
  by_cases q8 : a2 = 13
  · refine go_tableIn (off := 131) 132 dX7_isOneTooMany_1 (by rw [q8]; decide) (by rw [q8]; decide) (by rw [q8]; rfl) rfl ?_
    replace vc := vc.2.2.2.2.2.2.2.2.1 q8
    refine go_aload_n (x := b) dX7_isOneTooMany_132 rfl ?_
    refine go_getR (x := (b + 11)) dX7_isOneTooMany_133 f7_78 (slx hb) (fun _ _ => rfl) (rl_s hR hb (by decide)) ?_
    refine go_iload_n (x := a2) dX7_isOneTooMany_136 rfl ?_
    refine go_bipush (v := 12) dX7_isOneTooMany_137 rfl ?_
    refine go_isub dX7_isOneTooMany_139 ?_
    refine gvI1 MX0_isTold dX7_isOneTooMany_140 lX7_107 kX0_isTold vX0_isTold (sl11 hb) (by decide) rfl (Nat.le_of_ble_eq_true rfl) vc ?_
    intro v2 h2 vc
    obtain ⟨hR2, vc⟩ := vc
    replace hR := hR2.trans hR
    exact go_zret dX7_isOneTooMany_143 rfl vc.1 vc.2 rfl (Nat.le_refl _) (Nat.le_refl _)
  by_cases q9 : a2 = 14
  · refine go_tableIn (off := 131) 132 dX7_isOneTooMany_1 (by rw [q9]; decide) (by rw [q9]; decide) (by rw [q9]; rfl) rfl ?_
    replace vc := vc.2.2.2.2.2.2.2.2.2.1 q9
    refine go_aload_n (x := b) dX7_isOneTooMany_132 rfl ?_
    refine go_getR (x := (b + 11)) dX7_isOneTooMany_133 f7_78 (slx hb) (fun _ _ => rfl) (rl_s hR hb (by decide)) ?_
    refine go_iload_n (x := a2) dX7_isOneTooMany_136 rfl ?_
    refine go_bipush (v := 12) dX7_isOneTooMany_137 rfl ?_
    refine go_isub dX7_isOneTooMany_139 ?_
    refine gvI1 MX0_isTold dX7_isOneTooMany_140 lX7_107 kX0_isTold vX0_isTold (sl11 hb) (by decide) rfl (Nat.le_of_ble_eq_true rfl) vc ?_
    intro v3 h3 vc
    obtain ⟨hR3, vc⟩ := vc
    replace hR := hR3.trans hR
    exact go_zret dX7_isOneTooMany_143 rfl vc.1 vc.2 rfl (Nat.le_refl _) (Nat.le_refl _)
  replace vc := vc.2.2.2.2.2.2.2.2.2.2 q0 q1 q2 q3 q4 q5 q6 q7 q8 q9
  by_cases r0 : a2 = 3
  · refine go_tableIn (off := 143) 144 dX7_isOneTooMany_1 (by rw [r0]; decide) (by rw [r0]; decide) (by rw [r0]; rfl) rfl ?_
    refine go_iconst (v := 0) dX7_isOneTooMany_144 rfl ?_
    exact go_zret dX7_isOneTooMany_145 rfl (by decide) vc rfl (Nat.le_refl _) (Nat.le_refl _)
  by_cases r1 : a2 = 4
  · refine go_tableIn (off := 143) 144 dX7_isOneTooMany_1 (by rw [r1]; decide) (by rw [r1]; decide) (by rw [r1]; rfl) rfl ?_
    refine go_iconst (v := 0) dX7_isOneTooMany_144 rfl ?_
    exact go_zret dX7_isOneTooMany_145 rfl (by decide) vc rfl (Nat.le_refl _) (Nat.le_refl _)
  by_cases r2 : a2 = 6
  · refine go_tableIn (off := 143) 144 dX7_isOneTooMany_1 (by rw [r2]; decide) (by rw [r2]; decide) (by rw [r2]; rfl) rfl ?_
    refine go_iconst (v := 0) dX7_isOneTooMany_144 rfl ?_
    exact go_zret dX7_isOneTooMany_145 rfl (by decide) vc rfl (Nat.le_refl _) (Nat.le_refl _)
  by_cases r3 : a2 = 7
  · refine go_tableIn (off := 143) 144 dX7_isOneTooMany_1 (by rw [r3]; decide) (by rw [r3]; decide) (by rw [r3]; rfl) rfl ?_
    refine go_iconst (v := 0) dX7_isOneTooMany_144 rfl ?_
    exact go_zret dX7_isOneTooMany_145 rfl (by decide) vc rfl (Nat.le_refl _) (Nat.le_refl _)
  refine go_tableOut 144 dX7_isOneTooMany_1 ?_ rfl ?_
  · have e0 : ¬ (a2).toInt = 1 := lv_neT q0 rfl; have e1 : ¬ (a2).toInt = 2 := lv_neT q1 rfl; have e2 : ¬ (a2).toInt = 5 := lv_neT q2 rfl; have e3 : ¬ (a2).toInt = 8 := lv_neT q3 rfl; have e4 : ¬ (a2).toInt = 9 := lv_neT q4 rfl; have e5 : ¬ (a2).toInt = 10 := lv_neT q5 rfl; have e6 : ¬ (a2).toInt = 11 := lv_neT q6 rfl; have e7 : ¬ (a2).toInt = 12 := lv_neT q7 rfl; have e8 : ¬ (a2).toInt = 13 := lv_neT q8 rfl; have e9 : ¬ (a2).toInt = 14 := lv_neT q9 rfl; have e10 : ¬ (a2).toInt = 3 := lv_neT r0 rfl; have e11 : ¬ (a2).toInt = 4 := lv_neT r1 rfl; have e12 : ¬ (a2).toInt = 6 := lv_neT r2 rfl; have e13 : ¬ (a2).toInt = 7 := lv_neT r3 rfl
    omega
  refine go_iconst (v := 0) dX7_isOneTooMany_144 rfl ?_
  exact go_zret dX7_isOneTooMany_145 rfl (by decide) vc rfl (Nat.le_refl _) (Nat.le_refl _)
set_option maxRecDepth 20000 in
theorem wX7_readColumns_0 {p : Program} {l : Launch} {e : Env} {s : State} {m : MethodId} {args : Array Value} {below : List Frame} {meth : Method} {c : Code} {G : gG} {d : Nat} {Q : Option Value → gH → Prop} {h : gH} {lk sp : Nat} {cd : Option Nat} {b : Nat} (hR : h.2.2 = gRF lk sp cd) (hlk : lk = 30 ∨ lk = 67) (hsp : sp = 30 ∨ sp = 67) (hb : b = 30 ∨ b = 67) (vc : gC l G d MX5_move [.ref 1] h (rV fun h1 => h1.2.2 = (h).2.2 ∧ gC l G d MX5_takeNumber [.ref 1, .int 3, .int 8] h1 (rI fun v2 h2 => h2.2.2 = (h1).2.2 ∧ ((¬ v2 = (-1) → Q (some (.int 1)) (sI h2 b 11 v2)) ∧ (v2 = (-1) → Q (some (.int 0)) h2))))) : gg p l e s m args below meth c G (d + 1) MX7_readColumns Q 0 [some (.ref 5), some (.ref b), none] [] h := by
  refine go_aload_n (x := 5) dX7_readColumns_0 rfl ?_
  refine go_getR (x := 1) dX7_readColumns_1 f7_9 sh5 (fun _ _ => rfl) (rf5_0 hR) ?_
  refine gvV0 MX5_move dX7_readColumns_4 lX7_112 kX5_move vX5_move sh1 (by decide) rfl (Nat.le_of_ble_eq_true rfl) vc ?_
  intro h1 vc
  obtain ⟨hR1, vc⟩ := vc
  replace hR := hR1.trans hR
  refine go_aload_n (x := 5) dX7_readColumns_7 rfl ?_
  refine go_getR (x := 1) dX7_readColumns_8 f7_9 sh5 (fun _ _ => rfl) (rf5_0 hR) ?_
  refine go_iconst (v := 3) dX7_readColumns_11 rfl ?_
  refine go_bipush (v := 8) dX7_readColumns_12 rfl ?_
  refine gvI2 MX5_takeNumber dX7_readColumns_14 lX7_115 kX5_takeNumber vX5_takeNumber sh1 (by decide) rfl (Nat.le_of_ble_eq_true rfl) vc ?_
  intro v2 h2 vc
  obtain ⟨hR2, vc⟩ := vc
  replace hR := hR2.trans hR
  refine go_istore_n dX7_readColumns_17 (Nat.le_of_ble_eq_true rfl) ?_
  show gg p l e s m args below meth c G (d + 1) MX7_readColumns Q 18 [some (.ref 5), some (.ref b), some (.int v2)] [] h2
  refine go_iload_n (x := v2) dX7_readColumns_18 rfl ?_
  refine go_iconst (v := (-1)) dX7_readColumns_19 rfl ?_
  refine go_icmp_ne 25 dX7_readColumns_20 rfl (fun q => ?_) (fun q => ?_)
  · replace vc := vc.1 q
    refine go_aload_n (x := b) dX7_readColumns_25 rfl ?_
    refine go_iload_n (x := v2) dX7_readColumns_26 rfl ?_
    refine go_putI dX7_readColumns_27 f7_119 (slx hb) rfl rfl ?_
    refine go_iconst (v := 1) dX7_readColumns_30 rfl ?_
    exact go_zret dX7_readColumns_31 rfl (by decide) vc rfl (Nat.le_refl _) (Nat.le_refl _)
  · replace vc := vc.2 q
    refine go_iconst (v := 0) dX7_readColumns_23 rfl ?_
    exact go_zret dX7_readColumns_24 rfl (by decide) vc rfl (Nat.le_refl _) (Nat.le_refl _)
set_option maxRecDepth 20000 in
theorem wX7_readRow_0 {p : Program} {l : Launch} {e : Env} {s : State} {m : MethodId} {args : Array Value} {below : List Frame} {meth : Method} {c : Code} {G : gG} {d : Nat} {Q : Option Value → gH → Prop} {h : gH} {lk sp : Nat} {cd : Option Nat} {b : Nat} (hR : h.2.2 = gRF lk sp cd) (hlk : lk = 30 ∨ lk = 67) (hsp : sp = 30 ∨ sp = 67) (hb : b = 30 ∨ b = 67) (vc : gC l G d MX5_move [.ref 1] h (rV fun h1 => h1.2.2 = (h).2.2 ∧ ((¬ (h1.1 1 3) = (-2) → gC l G d MX5_failHere [.ref 1, .int 1] h1 (rI fun v2 h2 => h2.2.2 = (h1).2.2 ∧ ((v2 = 0 ∨ v2 = 1) ∧ Q (some (.int v2)) h2))) ∧ ((h1.1 1 3) = (-2) → ((((h1.1 1 5) - (h1.1 1 4)) = (h1.1 b 11) → gg p l e s m args below meth c G (d + 1) MX7_readRow Q 52 [some (.ref 5), some (.ref b), some (.int 0), none, none, none] [] h1) ∧ (¬ ((h1.1 1 5) - (h1.1 1 4)) = (h1.1 b 11) → gC l G d MX5_failHere [.ref 1, .int 1] h1 (rI fun v3 h3 => h3.2.2 = (h1).2.2 ∧ ((v3 = 0 ∨ v3 = 1) ∧ Q (some (.int v3)) h3)))))))) : gg p l e s m args below meth c G (d + 1) MX7_readRow Q 0 [some (.ref 5), some (.ref b), none, none, none, none] [] h := by
  refine go_aload_n (x := 5) dX7_readRow_0 rfl ?_
  refine go_getR (x := 1) dX7_readRow_1 f7_9 sh5 (fun _ _ => rfl) (rf5_0 hR) ?_
  refine gvV0 MX5_move dX7_readRow_4 lX7_112 kX5_move vX5_move sh1 (by decide) rfl (Nat.le_of_ble_eq_true rfl) vc ?_
  intro h1 vc
  obtain ⟨hR1, vc⟩ := vc
  replace hR := hR1.trans hR
  refine go_aload_n (x := 5) dX7_readRow_7 rfl ?_
  refine go_getR (x := 1) dX7_readRow_8 f7_9 sh5 (fun _ _ => rfl) (rf5_0 hR) ?_
  refine go_getI' (v := (h1.1 1 3)) dX7_readRow_11 f7_29 sh1 (fun _ _ => rfl) rfl ?_
  refine go_bipush (v := (-2)) dX7_readRow_14 rfl ?_
  refine go_icmp_ne 41 dX7_readRow_16 rfl (fun q => ?_) (fun q => ?_)
  · replace vc := vc.1 q
    refine go_aload_n (x := 5) dX7_readRow_41 rfl ?_
    refine go_getR (x := 1) dX7_readRow_42 f7_9 sh5 (fun _ _ => rfl) (rf5_0 hR) ?_
    refine go_iconst (v := 1) dX7_readRow_45 rfl ?_
    refine gvI1 MX5_failHere dX7_readRow_46 lX7_33 kX5_failHere vX5_failHere sh1 (by decide) rfl (Nat.le_of_ble_eq_true rfl) vc ?_
    intro v2 h2 vc
    obtain ⟨hR2, vc⟩ := vc
    replace hR := hR2.trans hR
    exact go_zret dX7_readRow_49 rfl vc.1 vc.2 rfl (Nat.le_refl _) (Nat.le_refl _)
  · replace vc := vc.2 q
    refine go_aload_n (x := 5) dX7_readRow_19 rfl ?_
    refine go_getR (x := 1) dX7_readRow_20 f7_9 sh5 (fun _ _ => rfl) (rf5_0 hR) ?_
    refine go_getI' (v := (h1.1 1 5)) dX7_readRow_23 f7_122 sh1 (fun _ _ => rfl) rfl ?_
    refine go_aload_n (x := 5) dX7_readRow_26 rfl ?_
    refine go_getR (x := 1) dX7_readRow_27 f7_9 sh5 (fun _ _ => rfl) (rf5_0 hR) ?_
    refine go_getI' (v := (h1.1 1 4)) dX7_readRow_30 f7_125 sh1 (fun _ _ => rfl) rfl ?_
    refine go_isub dX7_readRow_33 ?_
    refine go_aload_n (x := b) dX7_readRow_34 rfl ?_
    refine go_getI' (v := (h1.1 b 11)) dX7_readRow_35 f7_119 (slx hb) (fun _ _ => rfl) rfl ?_
    refine go_icmp_eq 50 dX7_readRow_38 rfl (fun q => ?_) (fun q => ?_)
    · replace vc := vc.1 q
      refine go_iconst (v := 0) dX7_readRow_50 rfl ?_
      refine go_istore_n dX7_readRow_51 (Nat.le_of_ble_eq_true rfl) ?_
      show gg p l e s m args below meth c G (d + 1) MX7_readRow Q 52 [some (.ref 5), some (.ref b), some (.int 0), none, none, none] [] h1
      exact vc
    · replace vc := vc.2 q
      refine go_aload_n (x := 5) dX7_readRow_41 rfl ?_
      refine go_getR (x := 1) dX7_readRow_42 f7_9 sh5 (fun _ _ => rfl) (rf5_0 hR) ?_
      refine go_iconst (v := 1) dX7_readRow_45 rfl ?_
      refine gvI1 MX5_failHere dX7_readRow_46 lX7_33 kX5_failHere vX5_failHere sh1 (by decide) rfl (Nat.le_of_ble_eq_true rfl) vc ?_
      intro v3 h3 vc
      obtain ⟨hR3, vc⟩ := vc
      replace hR := hR3.trans hR
      exact go_zret dX7_readRow_49 rfl vc.1 vc.2 rfl (Nat.le_refl _) (Nat.le_refl _)
set_option maxRecDepth 20000 in
theorem wX7_readRow_52 {p : Program} {l : Launch} {e : Env} {s : State} {m : MethodId} {args : Array Value} {below : List Frame} {meth : Method} {c : Code} {G : gG} {d : Nat} {Q : Option Value → gH → Prop} {h : gH} {lk sp : Nat} {cd : Option Nat} {b : Nat} {x2 : Int32} (hR : h.2.2 = gRF lk sp cd) (hlk : lk = 30 ∨ lk = 67) (hsp : sp = 30 ∨ sp = 67) (hb : b = 30 ∨ b = 67) (vc : (((h.1 b 11) ≤ x2 → gC l G d MX5_move [.ref 1] (sI h b 12 ((h.1 b 12) + 1)) (rV fun h1 => h1.2.2 = ((sI h b 12 ((h.1 b 12) + 1))).2.2 ∧ Q (some (.int 1)) h1)) ∧ (¬ (h.1 b 11) ≤ x2 → ((((h.1 1 4) + x2) < 0 → gC l G d MX5_failHere [.ref 1, .int 1] h (rI fun v2 h2 => h2.2.2 = (h).2.2 ∧ ((v2 = 0 ∨ v2 = 1) ∧ Q (some (.int v2)) h2))) ∧ (¬ ((h.1 1 4) + x2) < 0 → ((1600 ≤ ((h.1 1 4) + x2) → gC l G d MX5_failHere [.ref 1, .int 1] h (rI fun v3 h3 => h3.2.2 = (h).2.2 ∧ ((v3 = 0 ∨ v3 = 1) ∧ Q (some (.int v3)) h3))) ∧ (¬ 1600 ≤ ((h.1 1 4) + x2) → (vp_in (((h.1 1 4) + x2)) 1600 ∧ gC l G d MX7_kindOf [.int (h.1 2 (((h.1 1 4) + x2) : Int32).toNatClampNeg)] h (rI fun v4 h4 => h4.2.2 = (h).2.2 ∧ ((v4 = (-1) → gC l G d MX5_failHere [.ref 1, .int 1] h4 (rI fun v5 h5 => h5.2.2 = (h4).2.2 ∧ ((v5 = 0 ∨ v5 = 1) ∧ Q (some (.int v5)) h5))) ∧ (¬ v4 = (-1) → (((((h.1 b 12) * (h.1 b 11)) + x2) < 0 → gC l G d MX5_failHere [.ref 1, .int 1] h4 (rI fun v6 h6 => h6.2.2 = (h4).2.2 ∧ ((v6 = 0 ∨ v6 = 1) ∧ Q (some (.int v6)) h6))) ∧ (¬ (((h.1 b 12) * (h.1 b 11)) + x2) < 0 → (((((h.1 b 12) * (h.1 b 11)) + x2) < 48 → (vp_in ((((h.1 b 12) * (h.1 b 11)) + x2)) 48 ∧ gg p l e s m args below meth c G (d + 1) MX7_readRow Q 52 [some (.ref 5), some (.ref b), some (.int (x2 + 1)), none, none, none] [] (sI h4 (b + 1) ((((h.1 b 12) * (h.1 b 11)) + x2) : Int32).toNatClampNeg v4))) ∧ (¬ (((h.1 b 12) * (h.1 b 11)) + x2) < 48 → gC l G d MX5_failHere [.ref 1, .int 1] h4 (rI fun v7 h7 => h7.2.2 = (h4).2.2 ∧ ((v7 = 0 ∨ v7 = 1) ∧ Q (some (.int v7)) h7))))))))))))))))) : gg p l e s m args below meth c G (d + 1) MX7_readRow Q 52 [some (.ref 5), some (.ref b), some (.int x2), none, none, none] [] h := by
  refine go_iload_n (x := x2) dX7_readRow_52 rfl ?_
  refine go_aload_n (x := b) dX7_readRow_53 rfl ?_
  refine go_getI' (v := (h.1 b 11)) dX7_readRow_54 f7_119 (slx hb) (fun _ _ => rfl) rfl ?_
  refine go_icmp_ge 154 dX7_readRow_57 rfl (fun q => ?_) (fun q => ?_)
  · replace vc := vc.1 q
    refine go_aload_n (x := b) dX7_readRow_154 rfl ?_
    refine go_dup dX7_readRow_155 rfl ?_
    refine go_getI' (v := (h.1 b 12)) dX7_readRow_156 f7_95 (slx hb) (fun _ _ => rfl) rfl ?_
    refine go_iconst (v := 1) dX7_readRow_159 rfl ?_
    refine go_iadd dX7_readRow_160 ?_
    refine go_putI dX7_readRow_161 f7_95 (slx hb) rfl rfl ?_
    refine go_aload_n (x := 5) dX7_readRow_164 rfl ?_
    refine go_getR (x := 1) dX7_readRow_165 f7_9 sh5 (fun _ _ => rfl) (rf5_0 hR) ?_
    refine gvV0 MX5_move dX7_readRow_168 lX7_112 kX5_move vX5_move sh1 (by decide) rfl (Nat.le_of_ble_eq_true rfl) vc ?_
    intro h1 vc
    obtain ⟨hR1, vc⟩ := vc
    replace hR := hR1.trans hR
    refine go_iconst (v := 1) dX7_readRow_171 rfl ?_
    exact go_zret dX7_readRow_172 rfl (by decide) vc rfl (Nat.le_refl _) (Nat.le_refl _)
  · replace vc := vc.2 q
    refine go_aload_n (x := 5) dX7_readRow_60 rfl ?_
    refine go_getR (x := 1) dX7_readRow_61 f7_9 sh5 (fun _ _ => rfl) (rf5_0 hR) ?_
    refine go_getI' (v := (h.1 1 4)) dX7_readRow_64 f7_125 sh1 (fun _ _ => rfl) rfl ?_
    refine go_iload_n (x := x2) dX7_readRow_67 rfl ?_
    refine go_iadd dX7_readRow_68 ?_
    refine go_istore_n dX7_readRow_69 (Nat.le_of_ble_eq_true rfl) ?_
    show gg p l e s m args below meth c G (d + 1) MX7_readRow Q 70 [some (.ref 5), some (.ref b), some (.int x2), some (.int ((h.1 1 4) + x2)), none, none] [] h
    refine go_aload_n (x := b) dX7_readRow_70 rfl ?_
    refine go_getI' (v := (h.1 b 12)) dX7_readRow_71 f7_95 (slx hb) (fun _ _ => rfl) rfl ?_
    refine go_aload_n (x := b) dX7_readRow_74 rfl ?_
    refine go_getI' (v := (h.1 b 11)) dX7_readRow_75 f7_119 (slx hb) (fun _ _ => rfl) rfl ?_
    refine go_imul dX7_readRow_78 ?_
    refine go_iload_n (x := x2) dX7_readRow_79 rfl ?_
    refine go_iadd dX7_readRow_80 ?_
    refine go_istore dX7_readRow_81 (Nat.le_of_ble_eq_true rfl) ?_
    show gg p l e s m args below meth c G (d + 1) MX7_readRow Q 83 [some (.ref 5), some (.ref b), some (.int x2), some (.int ((h.1 1 4) + x2)), some (.int (((h.1 b 12) * (h.1 b 11)) + x2)), none] [] h
    refine go_iload_n (x := ((h.1 1 4) + x2)) dX7_readRow_83 rfl ?_
    refine go_if_lt 109 dX7_readRow_84 rfl (fun q => ?_) (fun q => ?_)
    · replace vc := vc.1 q
      refine go_iconst (v := (-1)) dX7_readRow_109 rfl ?_
      refine go_istore dX7_readRow_110 (Nat.le_of_ble_eq_true rfl) ?_
      show gg p l e s m args below meth c G (d + 1) MX7_readRow Q 112 [some (.ref 5), some (.ref b), some (.int x2), some (.int ((h.1 1 4) + x2)), some (.int (((h.1 b 12) * (h.1 b 11)) + x2)), some (.int (-1))] [] h
      refine go_iload (x := (-1)) dX7_readRow_112 rfl ?_
      refine go_iconst (v := (-1)) dX7_readRow_114 rfl ?_
      refine go_icmp_eq 130 dX7_readRow_115 rfl (fun q => ?_) (fun q => absurd q (by decide))
      refine go_aload_n (x := 5) dX7_readRow_130 rfl ?_
      refine go_getR (x := 1) dX7_readRow_131 f7_9 sh5 (fun _ _ => rfl) (rf5_0 hR) ?_
      refine go_iconst (v := 1) dX7_readRow_134 rfl ?_
      refine gvI1 MX5_failHere dX7_readRow_135 lX7_33 kX5_failHere vX5_failHere sh1 (by decide) rfl (Nat.le_of_ble_eq_true rfl) vc ?_
      intro v2 h2 vc
      obtain ⟨hR2, vc⟩ := vc
      replace hR := hR2.trans hR
      exact go_zret dX7_readRow_138 rfl vc.1 vc.2 rfl (Nat.le_refl _) (Nat.le_refl _)
    · replace vc := vc.2 q
      refine go_iload_n (x := ((h.1 1 4) + x2)) dX7_readRow_87 rfl ?_
      refine go_sipush (v := 1600) dX7_readRow_88 rfl ?_
      refine go_icmp_ge 109 dX7_readRow_91 rfl (fun q => ?_) (fun q => ?_)
      · replace vc := vc.1 q
        refine go_iconst (v := (-1)) dX7_readRow_109 rfl ?_
        refine go_istore dX7_readRow_110 (Nat.le_of_ble_eq_true rfl) ?_
        show gg p l e s m args below meth c G (d + 1) MX7_readRow Q 112 [some (.ref 5), some (.ref b), some (.int x2), some (.int ((h.1 1 4) + x2)), some (.int (((h.1 b 12) * (h.1 b 11)) + x2)), some (.int (-1))] [] h
        refine go_iload (x := (-1)) dX7_readRow_112 rfl ?_
        refine go_iconst (v := (-1)) dX7_readRow_114 rfl ?_
        refine go_icmp_eq 130 dX7_readRow_115 rfl (fun q => ?_) (fun q => absurd q (by decide))
        refine go_aload_n (x := 5) dX7_readRow_130 rfl ?_
        refine go_getR (x := 1) dX7_readRow_131 f7_9 sh5 (fun _ _ => rfl) (rf5_0 hR) ?_
        refine go_iconst (v := 1) dX7_readRow_134 rfl ?_
        refine gvI1 MX5_failHere dX7_readRow_135 lX7_33 kX5_failHere vX5_failHere sh1 (by decide) rfl (Nat.le_of_ble_eq_true rfl) vc ?_
        intro v3 h3 vc
        obtain ⟨hR3, vc⟩ := vc
        replace hR := hR3.trans hR
        exact go_zret dX7_readRow_138 rfl vc.1 vc.2 rfl (Nat.le_refl _) (Nat.le_refl _)
      · replace vc := vc.2 q
        refine go_aload_n (x := 5) dX7_readRow_94 rfl ?_
        refine go_getR (x := 1) dX7_readRow_95 f7_9 sh5 (fun _ _ => rfl) (rf5_0 hR) ?_
        refine go_getR (x := 2) dX7_readRow_98 f7_128 sh1 (fun _ _ => rfl) (rf1_0 hR) ?_
        refine go_iload_n (x := ((h.1 1 4) + x2)) dX7_readRow_101 rfl ?_
        refine go_iald' (v := (h.1 2 (((h.1 1 4) + x2) : Int32).toNatClampNeg)) dX7_readRow_102 sh2 vc.1 rfl ?_
        have vc := vc.2
        refine gsI1 MX7_kindOf dX7_readRow_103 lX7_132 kX7_kindOf sX7_kindOf (Nat.le_of_ble_eq_true rfl) vc ?_
        intro v4 h4 vc
        obtain ⟨hR4, vc⟩ := vc
        replace hR := hR4.trans hR
        refine go_goto 110 dX7_readRow_106 rfl ?_
        refine go_istore dX7_readRow_110 (Nat.le_of_ble_eq_true rfl) ?_
        show gg p l e s m args below meth c G (d + 1) MX7_readRow Q 112 [some (.ref 5), some (.ref b), some (.int x2), some (.int ((h.1 1 4) + x2)), some (.int (((h.1 b 12) * (h.1 b 11)) + x2)), some (.int v4)] [] h4
        refine go_iload (x := v4) dX7_readRow_112 rfl ?_
        refine go_iconst (v := (-1)) dX7_readRow_114 rfl ?_
        refine go_icmp_eq 130 dX7_readRow_115 rfl (fun q => ?_) (fun q => ?_)
        · replace vc := vc.1 q
          refine go_aload_n (x := 5) dX7_readRow_130 rfl ?_
          refine go_getR (x := 1) dX7_readRow_131 f7_9 sh5 (fun _ _ => rfl) (rf5_0 hR) ?_
          refine go_iconst (v := 1) dX7_readRow_134 rfl ?_
          refine gvI1 MX5_failHere dX7_readRow_135 lX7_33 kX5_failHere vX5_failHere sh1 (by decide) rfl (Nat.le_of_ble_eq_true rfl) vc ?_
          intro v5 h5 vc
          obtain ⟨hR5, vc⟩ := vc
          replace hR := hR5.trans hR
          exact go_zret dX7_readRow_138 rfl vc.1 vc.2 rfl (Nat.le_refl _) (Nat.le_refl _)
        · replace vc := vc.2 q
          refine go_iload (x := (((h.1 b 12) * (h.1 b 11)) + x2)) dX7_readRow_118 rfl ?_
          refine go_if_lt 130 dX7_readRow_120 rfl (fun q => ?_) (fun q => ?_)
          · replace vc := vc.1 q
            refine go_aload_n (x := 5) dX7_readRow_130 rfl ?_
            refine go_getR (x := 1) dX7_readRow_131 f7_9 sh5 (fun _ _ => rfl) (rf5_0 hR) ?_
            refine go_iconst (v := 1) dX7_readRow_134 rfl ?_
            refine gvI1 MX5_failHere dX7_readRow_135 lX7_33 kX5_failHere vX5_failHere sh1 (by decide) rfl (Nat.le_of_ble_eq_true rfl) vc ?_
            intro v6 h6 vc
            obtain ⟨hR6, vc⟩ := vc
            replace hR := hR6.trans hR
            exact go_zret dX7_readRow_138 rfl vc.1 vc.2 rfl (Nat.le_refl _) (Nat.le_refl _)
          · replace vc := vc.2 q
            refine go_iload (x := (((h.1 b 12) * (h.1 b 11)) + x2)) dX7_readRow_123 rfl ?_
            refine go_bipush (v := 48) dX7_readRow_125 rfl ?_
            refine go_icmp_lt 139 dX7_readRow_127 rfl (fun q => ?_) (fun q => ?_)
            · replace vc := vc.1 q
              refine go_aload_n (x := b) dX7_readRow_139 rfl ?_
              refine go_getR (x := (b + 1)) dX7_readRow_140 f7_136 (slx hb) (fun _ _ => rfl) (rl_s hR hb (by decide)) ?_
              refine go_iload (x := (((h.1 b 12) * (h.1 b 11)) + x2)) dX7_readRow_143 rfl ?_
              refine go_iload (x := v4) dX7_readRow_145 rfl ?_
              refine go_iast dX7_readRow_147 (sl1 hb) vc.1 ?_
              have vc := vc.2
              show gg p l e s m args below meth c G (d + 1) MX7_readRow Q 148 [some (.ref 5), some (.ref b), some (.int x2), some (.int ((h.1 1 4) + x2)), some (.int (((h.1 b 12) * (h.1 b 11)) + x2)), some (.int v4)] [] (sI h4 (b + 1) ((((h.1 b 12) * (h.1 b 11)) + x2) : Int32).toNatClampNeg v4)
              refine go_iinc (x := x2) dX7_readRow_148 rfl ?_
              show gg p l e s m args below meth c G (d + 1) MX7_readRow Q 151 [some (.ref 5), some (.ref b), some (.int (x2 + 1)), some (.int ((h.1 1 4) + x2)), some (.int (((h.1 b 12) * (h.1 b 11)) + x2)), some (.int v4)] [] (sI h4 (b + 1) ((((h.1 b 12) * (h.1 b 11)) + x2) : Int32).toNatClampNeg v4)
              refine go_goto 52 dX7_readRow_151 rfl ?_
              refine go_weak (ls' := [some (.ref 5), some (.ref b), some (.int (x2 + 1)), none, none, none]) ?_ vc
              exact (⟨rfl, ⟨rfl, ⟨rfl, trivial⟩⟩⟩)
            · replace vc := vc.2 q
              refine go_aload_n (x := 5) dX7_readRow_130 rfl ?_
              refine go_getR (x := 1) dX7_readRow_131 f7_9 sh5 (fun _ _ => rfl) (rf5_0 hR) ?_
              refine go_iconst (v := 1) dX7_readRow_134 rfl ?_
              refine gvI1 MX5_failHere dX7_readRow_135 lX7_33 kX5_failHere vX5_failHere sh1 (by decide) rfl (Nat.le_of_ble_eq_true rfl) vc ?_
              intro v7 h7 vc
              obtain ⟨hR7, vc⟩ := vc
              replace hR := hR7.trans hR
              exact go_zret dX7_readRow_138 rfl vc.1 vc.2 rfl (Nat.le_refl _) (Nat.le_refl _)
set_option maxRecDepth 20000 in
theorem wX7_kindOf_0 {p : Program} {l : Launch} {e : Env} {s : State} {m : MethodId} {args : Array Value} {below : List Frame} {meth : Method} {c : Code} {G : gG} {d : Nat} {Q : Option Value → gH → Prop} {h : gH} {lk sp : Nat} {cd : Option Nat} {a1 : Int32} (hR : h.2.2 = gRF lk sp cd) (hlk : lk = 30 ∨ lk = 67) (hsp : sp = 30 ∨ sp = 67)  (vc : gg p l e s m args below meth c G (d + 4) MX7_kindOf Q 2 [some (.int a1), some (.int 0)] [] h) : gg p l e s m args below meth c G (d + 4) MX7_kindOf Q 0 [some (.int a1), none] [] h := by
  refine go_iconst (v := 0) dX7_kindOf_0 rfl ?_
  refine go_istore_n dX7_kindOf_1 (Nat.le_of_ble_eq_true rfl) ?_
  show gg p l e s m args below meth c G (d + 4) MX7_kindOf Q 2 [some (.int a1), some (.int 0)] [] h
  exact vc
set_option maxRecDepth 20000 in
theorem wX7_kindOf_2 {p : Program} {l : Launch} {e : Env} {s : State} {m : MethodId} {args : Array Value} {below : List Frame} {meth : Method} {c : Code} {G : gG} {d : Nat} {Q : Option Value → gH → Prop} {h : gH} {lk sp : Nat} {cd : Option Nat} {x0 : Int32} {x1 : Int32} (hR : h.2.2 = gRF lk sp cd) (hlk : lk = 30 ∨ lk = 67) (hsp : sp = 30 ∨ sp = 67)  (vc : ((5 ≤ x1 → Q (some (.int (-1))) h) ∧ (¬ 5 ≤ x1 → (vp_in x1 5 ∧ ((¬ (gLet x1) = x0 → gg p l e s m args below meth c G (d + 4) MX7_kindOf Q 2 [some (.int x0), some (.int (x1 + 1))] [] h) ∧ ((gLet x1) = x0 → Q (some (.int x1)) h)))))) : gg p l e s m args below meth c G (d + 4) MX7_kindOf Q 2 [some (.int x0), some (.int x1)] [] h := by
  refine go_iload_n (x := x1) dX7_kindOf_2 rfl ?_
  refine go_ldcS1 rfl dX7_kindOf_3 ?_
  refine go_slenC dX7_kindOf_5 lX7_141 (Nat.le_of_ble_eq_true rfl) ?_
  refine go_icmp_ge 29 dX7_kindOf_8 rfl (fun q => ?_) (fun q => ?_)
  · replace vc := vc.1 q
    refine go_iconst (v := (-1)) dX7_kindOf_29 rfl ?_
    exact go_iret dX7_kindOf_30 rfl vc rfl (Nat.le_refl _) (Nat.le_refl _)
  · replace vc := vc.2 q
    refine go_ldcS1 rfl dX7_kindOf_11 ?_
    refine go_iload_n (x := x1) dX7_kindOf_13 rfl ?_
    refine go_sChar dX7_kindOf_14 lX7_147 (Nat.le_of_ble_eq_true rfl) vc.1 ?_
    have vc := vc.2
    refine go_iload_n (x := x0) dX7_kindOf_17 rfl ?_
    refine go_icmp_ne 23 dX7_kindOf_18 rfl (fun q => ?_) (fun q => ?_)
    · replace vc := vc.1 q
      refine go_iinc (x := x1) dX7_kindOf_23 rfl ?_
      show gg p l e s m args below meth c G (d + 4) MX7_kindOf Q 26 [some (.int x0), some (.int (x1 + 1))] [] h
      refine go_goto 2 dX7_kindOf_26 rfl ?_
      exact vc
    · replace vc := vc.2 q
      refine go_iload_n (x := x1) dX7_kindOf_21 rfl ?_
      exact go_iret dX7_kindOf_22 rfl vc rfl (Nat.le_refl _) (Nat.le_refl _)
set_option maxRecDepth 20000 in
theorem wX7_readBoat_0 {p : Program} {l : Launch} {e : Env} {s : State} {m : MethodId} {args : Array Value} {below : List Frame} {meth : Method} {c : Code} {G : gG} {d : Nat} {Q : Option Value → gH → Prop} {h : gH} {lk sp : Nat} {cd : Option Nat} {b : Nat} (hR : h.2.2 = gRF lk sp cd) (hlk : lk = 30 ∨ lk = 67) (hsp : sp = 30 ∨ sp = 67) (hb : b = 30 ∨ b = 67) (vc : gC l G d MX7_readNewName [.ref 5, .ref b] h (rI fun v1 h1 => h1.2.2 = (h).2.2 ∧ ((v1 = 0 → Q (some (.int 0)) h1) ∧ (¬ v1 = 0 → gC l G d MX5_takeWord [.ref 1, .int 3] h1 (rI fun v2 h2 => h2.2.2 = (h1).2.2 ∧ ((¬ v2 = 0 → gC l G d MX5_takeNumber [.ref 1, .int 0, .int 99] h2 (rI fun v3 h3 => h3.2.2 = (h2).2.2 ∧ ((v3 = (-1) → Q (some (.int 0)) h3) ∧ (¬ v3 = (-1) → gC l G d MX5_takeWord [.ref 1, .int 4] h3 (rI fun v4 h4 => h4.2.2 = (h3).2.2 ∧ ((¬ v4 = 0 → gC l G d MX7_readHarbour [.ref 5, .ref b] h4 (rI fun v5 h5 => h5.2.2 = (h4).2.2 ∧ ((v5 = (-1) → Q (some (.int 0)) h5) ∧ (¬ v5 = (-1) → (((h.1 b 13) < 0 → Q (some (.int 0)) h5) ∧ (¬ (h.1 b 13) < 0 → (((h.1 b 13) < 6 → (vp_in ((h.1 b 13)) 6 ∧ (vp_in ((h.1 b 13)) 6 ∧ (vp_in ((h.1 b 13)) 6 ∧ Q (some (.int 1)) (sI (sI (sI (sI h5 (b + 3) ((h.1 b 13) : Int32).toNatClampNeg v1) (b + 5) ((h.1 b 13) : Int32).toNatClampNeg v3) (b + 4) ((h.1 b 13) : Int32).toNatClampNeg v5) b 13 ((h5.1 b 13) + 1)))))) ∧ (¬ (h.1 b 13) < 6 → Q (some (.int 0)) h5)))))))) ∧ (v4 = 0 → Q (some (.int 0)) h4))))))) ∧ (v2 = 0 → Q (some (.int 0)) h2))))))) : gg p l e s m args below meth c G (d + 1) MX7_readBoat Q 0 [some (.ref 5), some (.ref b), none, none, none, none] [] h := by
  refine go_aload_n (x := b) dX7_readBoat_0 rfl ?_
  refine go_getI' (v := (h.1 b 13)) dX7_readBoat_1 f7_98 (slx hb) (fun _ _ => rfl) rfl ?_
  refine go_istore_n dX7_readBoat_4 (Nat.le_of_ble_eq_true rfl) ?_
  show gg p l e s m args below meth c G (d + 1) MX7_readBoat Q 5 [some (.ref 5), some (.ref b), some (.int (h.1 b 13)), none, none, none] [] h
  refine go_aload_n (x := 5) dX7_readBoat_5 rfl ?_
  refine go_aload_n (x := b) dX7_readBoat_6 rfl ?_
  refine gvI1 MX7_readNewName dX7_readBoat_7 lX7_151 kX7_readNewName vX7_readNewName sh5 (by decide) rfl (Nat.le_of_ble_eq_true rfl) vc ?_
  intro v1 h1 vc
  obtain ⟨hR1, vc⟩ := vc
  replace hR := hR1.trans hR
  refine go_istore_n dX7_readBoat_10 (Nat.le_of_ble_eq_true rfl) ?_
  show gg p l e s m args below meth c G (d + 1) MX7_readBoat Q 11 [some (.ref 5), some (.ref b), some (.int (h.1 b 13)), some (.int v1), none, none] [] h1
  refine go_iload_n (x := v1) dX7_readBoat_11 rfl ?_
  refine go_if_eq 26 dX7_readBoat_12 rfl (fun q => ?_) (fun q => ?_)
  · replace vc := vc.1 q
    refine go_iconst (v := 0) dX7_readBoat_26 rfl ?_
    exact go_zret dX7_readBoat_27 rfl (by decide) vc rfl (Nat.le_refl _) (Nat.le_refl _)
  · replace vc := vc.2 q
    refine go_aload_n (x := 5) dX7_readBoat_15 rfl ?_
    refine go_getR (x := 1) dX7_readBoat_16 f7_9 sh5 (fun _ _ => rfl) (rf5_0 hR) ?_
    refine go_iconst (v := 3) dX7_readBoat_19 rfl ?_
    refine gvI1 MX5_takeWord dX7_readBoat_20 lX7_155 kX5_takeWord vX5_takeWord sh1 (by decide) rfl (Nat.le_of_ble_eq_true rfl) vc ?_
    intro v2 h2 vc
    obtain ⟨hR2, vc⟩ := vc
    replace hR := hR2.trans hR
    refine go_if_ne 28 dX7_readBoat_23 rfl (fun q => ?_) (fun q => ?_)
    · replace vc := vc.1 q
      refine go_aload_n (x := 5) dX7_readBoat_28 rfl ?_
      refine go_getR (x := 1) dX7_readBoat_29 f7_9 sh5 (fun _ _ => rfl) (rf5_0 hR) ?_
      refine go_iconst (v := 0) dX7_readBoat_32 rfl ?_
      refine go_bipush (v := 99) dX7_readBoat_33 rfl ?_
      refine gvI2 MX5_takeNumber dX7_readBoat_35 lX7_115 kX5_takeNumber vX5_takeNumber sh1 (by decide) rfl (Nat.le_of_ble_eq_true rfl) vc ?_
      intro v3 h3 vc
      obtain ⟨hR3, vc⟩ := vc
      replace hR := hR3.trans hR
      refine go_istore dX7_readBoat_38 (Nat.le_of_ble_eq_true rfl) ?_
      show gg p l e s m args below meth c G (d + 1) MX7_readBoat Q 40 [some (.ref 5), some (.ref b), some (.int (h.1 b 13)), some (.int v1), some (.int v3), none] [] h3
      refine go_iload (x := v3) dX7_readBoat_40 rfl ?_
      refine go_iconst (v := (-1)) dX7_readBoat_42 rfl ?_
      refine go_icmp_eq 57 dX7_readBoat_43 rfl (fun q => ?_) (fun q => ?_)
      · replace vc := vc.1 q
        refine go_iconst (v := 0) dX7_readBoat_57 rfl ?_
        exact go_zret dX7_readBoat_58 rfl (by decide) vc rfl (Nat.le_refl _) (Nat.le_refl _)
      · replace vc := vc.2 q
        refine go_aload_n (x := 5) dX7_readBoat_46 rfl ?_
        refine go_getR (x := 1) dX7_readBoat_47 f7_9 sh5 (fun _ _ => rfl) (rf5_0 hR) ?_
        refine go_iconst (v := 4) dX7_readBoat_50 rfl ?_
        refine gvI1 MX5_takeWord dX7_readBoat_51 lX7_155 kX5_takeWord vX5_takeWord sh1 (by decide) rfl (Nat.le_of_ble_eq_true rfl) vc ?_
        intro v4 h4 vc
        obtain ⟨hR4, vc⟩ := vc
        replace hR := hR4.trans hR
        refine go_if_ne 59 dX7_readBoat_54 rfl (fun q => ?_) (fun q => ?_)
        · replace vc := vc.1 q
          refine go_aload_n (x := 5) dX7_readBoat_59 rfl ?_
          refine go_aload_n (x := b) dX7_readBoat_60 rfl ?_
          refine gvI1 MX7_readHarbour dX7_readBoat_61 lX7_158 kX7_readHarbour vX7_readHarbour sh5 (by decide) rfl (Nat.le_of_ble_eq_true rfl) vc ?_
          intro v5 h5 vc
          obtain ⟨hR5, vc⟩ := vc
          replace hR := hR5.trans hR
          refine go_istore dX7_readBoat_64 (Nat.le_of_ble_eq_true rfl) ?_
          show gg p l e s m args below meth c G (d + 1) MX7_readBoat Q 66 [some (.ref 5), some (.ref b), some (.int (h.1 b 13)), some (.int v1), some (.int v3), some (.int v5)] [] h5
          refine go_iload (x := v5) dX7_readBoat_66 rfl ?_
          refine go_iconst (v := (-1)) dX7_readBoat_68 rfl ?_
          refine go_icmp_eq 82 dX7_readBoat_69 rfl (fun q => ?_) (fun q => ?_)
          · replace vc := vc.1 q
            refine go_iconst (v := 0) dX7_readBoat_82 rfl ?_
            exact go_zret dX7_readBoat_83 rfl (by decide) vc rfl (Nat.le_refl _) (Nat.le_refl _)
          · replace vc := vc.2 q
            refine go_iload_n (x := (h.1 b 13)) dX7_readBoat_72 rfl ?_
            refine go_if_lt 82 dX7_readBoat_73 rfl (fun q => ?_) (fun q => ?_)
            · replace vc := vc.1 q
              refine go_iconst (v := 0) dX7_readBoat_82 rfl ?_
              exact go_zret dX7_readBoat_83 rfl (by decide) vc rfl (Nat.le_refl _) (Nat.le_refl _)
            · replace vc := vc.2 q
              refine go_iload_n (x := (h.1 b 13)) dX7_readBoat_76 rfl ?_
              refine go_bipush (v := 6) dX7_readBoat_77 rfl ?_
              refine go_icmp_lt 84 dX7_readBoat_79 rfl (fun q => ?_) (fun q => ?_)
              · replace vc := vc.1 q
                refine go_aload_n (x := b) dX7_readBoat_84 rfl ?_
                refine go_getR (x := (b + 3)) dX7_readBoat_85 f7_161 (slx hb) (fun _ _ => rfl) (rl_s hR hb (by decide)) ?_
                refine go_iload_n (x := (h.1 b 13)) dX7_readBoat_88 rfl ?_
                refine go_iload_n (x := v1) dX7_readBoat_89 rfl ?_
                refine go_iast dX7_readBoat_90 (sl3 hb) vc.1 ?_
                have vc := vc.2
                show gg p l e s m args below meth c G (d + 1) MX7_readBoat Q 91 [some (.ref 5), some (.ref b), some (.int (h.1 b 13)), some (.int v1), some (.int v3), some (.int v5)] [] (sI h5 (b + 3) ((h.1 b 13) : Int32).toNatClampNeg v1)
                refine go_aload_n (x := b) dX7_readBoat_91 rfl ?_
                refine go_getR (x := (b + 5)) dX7_readBoat_92 f7_164 (slx hb) (fun _ _ => rfl) (rl_s hR hb (by decide)) ?_
                refine go_iload_n (x := (h.1 b 13)) dX7_readBoat_95 rfl ?_
                refine go_iload (x := v3) dX7_readBoat_96 rfl ?_
                refine go_iast dX7_readBoat_98 (sl5 hb) vc.1 ?_
                have vc := vc.2
                show gg p l e s m args below meth c G (d + 1) MX7_readBoat Q 99 [some (.ref 5), some (.ref b), some (.int (h.1 b 13)), some (.int v1), some (.int v3), some (.int v5)] [] (sI (sI h5 (b + 3) ((h.1 b 13) : Int32).toNatClampNeg v1) (b + 5) ((h.1 b 13) : Int32).toNatClampNeg v3)
                refine go_aload_n (x := b) dX7_readBoat_99 rfl ?_
                refine go_getR (x := (b + 4)) dX7_readBoat_100 f7_167 (slx hb) (fun _ _ => rfl) (rl_s hR hb (by decide)) ?_
                refine go_iload_n (x := (h.1 b 13)) dX7_readBoat_103 rfl ?_
                refine go_iload (x := v5) dX7_readBoat_104 rfl ?_
                refine go_iast dX7_readBoat_106 (sl4 hb) vc.1 ?_
                have vc := vc.2
                show gg p l e s m args below meth c G (d + 1) MX7_readBoat Q 107 [some (.ref 5), some (.ref b), some (.int (h.1 b 13)), some (.int v1), some (.int v3), some (.int v5)] [] (sI (sI (sI h5 (b + 3) ((h.1 b 13) : Int32).toNatClampNeg v1) (b + 5) ((h.1 b 13) : Int32).toNatClampNeg v3) (b + 4) ((h.1 b 13) : Int32).toNatClampNeg v5)
                refine go_aload_n (x := b) dX7_readBoat_107 rfl ?_
                refine go_dup dX7_readBoat_108 rfl ?_
                refine go_getI' (v := (h5.1 b 13)) dX7_readBoat_109 f7_98 (slx hb) (fun _ _ => rfl) (by first | rfl | simp [sI, sL]) ?_
                refine go_iconst (v := 1) dX7_readBoat_112 rfl ?_
                refine go_iadd dX7_readBoat_113 ?_
                refine go_putI dX7_readBoat_114 f7_98 (slx hb) rfl rfl ?_
                refine go_iconst (v := 1) dX7_readBoat_117 rfl ?_
                exact go_zret dX7_readBoat_118 rfl (by decide) vc rfl (Nat.le_refl _) (Nat.le_refl _)
              · replace vc := vc.2 q
                refine go_iconst (v := 0) dX7_readBoat_82 rfl ?_
                exact go_zret dX7_readBoat_83 rfl (by decide) vc rfl (Nat.le_refl _) (Nat.le_refl _)
        · replace vc := vc.2 q
          refine go_iconst (v := 0) dX7_readBoat_57 rfl ?_
          exact go_zret dX7_readBoat_58 rfl (by decide) vc rfl (Nat.le_refl _) (Nat.le_refl _)
    · replace vc := vc.2 q
      refine go_iconst (v := 0) dX7_readBoat_26 rfl ?_
      exact go_zret dX7_readBoat_27 rfl (by decide) vc rfl (Nat.le_refl _) (Nat.le_refl _)
set_option maxRecDepth 20000 in
theorem wX7_readHarbour_0 {p : Program} {l : Launch} {e : Env} {s : State} {m : MethodId} {args : Array Value} {below : List Frame} {meth : Method} {c : Code} {G : gG} {d : Nat} {Q : Option Value → gH → Prop} {h : gH} {lk sp : Nat} {cd : Option Nat} {b : Nat} (hR : h.2.2 = gRF lk sp cd) (hlk : lk = 30 ∨ lk = 67) (hsp : sp = 30 ∨ sp = 67) (hb : b = 30 ∨ b = 67) (vc : gC l G d MX5_takeNumber [.ref 1, .int 0, .int ((h.1 b 11) - 1)] h (rI fun v1 h1 => h1.2.2 = (h).2.2 ∧ ((¬ v1 = (-1) → gC l G d MX5_takeNumber [.ref 1, .int 0, .int ((h1.1 b 12) - 1)] h1 (rI fun v2 h2 => h2.2.2 = (h1).2.2 ∧ ((¬ v2 = (-1) → gC l G d MX4_isHarbour [.ref b, .int ((v2 * (h2.1 b 11)) + v1)] h2 (rI fun v3 h3 => h3.2.2 = (h2).2.2 ∧ ((¬ v3 = 0 → Q (some (.int ((v2 * (h2.1 b 11)) + v1))) h3) ∧ (v3 = 0 → gC l G d MX5_fail [.ref 1, .int 2, .int (h1.1 1 4)] h3 (rI fun v4 h4 => h4.2.2 = (h3).2.2 ∧ Q (some (.int (-1))) h4))))) ∧ (v2 = (-1) → Q (some (.int (-1))) h2)))) ∧ (v1 = (-1) → Q (some (.int (-1))) h1)))) : gg p l e s m args below meth c G (d + 1) MX7_readHarbour Q 0 [some (.ref 5), some (.ref b), none, none, none, none] [] h := by
  refine go_aload_n (x := 5) dX7_readHarbour_0 rfl ?_
  refine go_getR (x := 1) dX7_readHarbour_1 f7_9 sh5 (fun _ _ => rfl) (rf5_0 hR) ?_
  refine go_iconst (v := 0) dX7_readHarbour_4 rfl ?_
  refine go_aload_n (x := b) dX7_readHarbour_5 rfl ?_
  refine go_getI' (v := (h.1 b 11)) dX7_readHarbour_6 f7_119 (slx hb) (fun _ _ => rfl) rfl ?_
  refine go_iconst (v := 1) dX7_readHarbour_9 rfl ?_
  refine go_isub dX7_readHarbour_10 ?_
  refine gvI2 MX5_takeNumber dX7_readHarbour_11 lX7_115 kX5_takeNumber vX5_takeNumber sh1 (by decide) rfl (Nat.le_of_ble_eq_true rfl) vc ?_
  intro v1 h1 vc
  obtain ⟨hR1, vc⟩ := vc
  replace hR := hR1.trans hR
  refine go_istore_n dX7_readHarbour_14 (Nat.le_of_ble_eq_true rfl) ?_
  show gg p l e s m args below meth c G (d + 1) MX7_readHarbour Q 15 [some (.ref 5), some (.ref b), some (.int v1), none, none, none] [] h1
  refine go_iload_n (x := v1) dX7_readHarbour_15 rfl ?_
  refine go_iconst (v := (-1)) dX7_readHarbour_16 rfl ?_
  refine go_icmp_ne 22 dX7_readHarbour_17 rfl (fun q => ?_) (fun q => ?_)
  · replace vc := vc.1 q
    refine go_aload_n (x := 5) dX7_readHarbour_22 rfl ?_
    refine go_getR (x := 1) dX7_readHarbour_23 f7_9 sh5 (fun _ _ => rfl) (rf5_0 hR) ?_
    refine go_getI' (v := (h1.1 1 4)) dX7_readHarbour_26 f7_125 sh1 (fun _ _ => rfl) rfl ?_
    refine go_istore_n dX7_readHarbour_29 (Nat.le_of_ble_eq_true rfl) ?_
    show gg p l e s m args below meth c G (d + 1) MX7_readHarbour Q 30 [some (.ref 5), some (.ref b), some (.int v1), some (.int (h1.1 1 4)), none, none] [] h1
    refine go_aload_n (x := 5) dX7_readHarbour_30 rfl ?_
    refine go_getR (x := 1) dX7_readHarbour_31 f7_9 sh5 (fun _ _ => rfl) (rf5_0 hR) ?_
    refine go_iconst (v := 0) dX7_readHarbour_34 rfl ?_
    refine go_aload_n (x := b) dX7_readHarbour_35 rfl ?_
    refine go_getI' (v := (h1.1 b 12)) dX7_readHarbour_36 f7_95 (slx hb) (fun _ _ => rfl) rfl ?_
    refine go_iconst (v := 1) dX7_readHarbour_39 rfl ?_
    refine go_isub dX7_readHarbour_40 ?_
    refine gvI2 MX5_takeNumber dX7_readHarbour_41 lX7_115 kX5_takeNumber vX5_takeNumber sh1 (by decide) rfl (Nat.le_of_ble_eq_true rfl) vc ?_
    intro v2 h2 vc
    obtain ⟨hR2, vc⟩ := vc
    replace hR := hR2.trans hR
    refine go_istore dX7_readHarbour_44 (Nat.le_of_ble_eq_true rfl) ?_
    show gg p l e s m args below meth c G (d + 1) MX7_readHarbour Q 46 [some (.ref 5), some (.ref b), some (.int v1), some (.int (h1.1 1 4)), some (.int v2), none] [] h2
    refine go_iload (x := v2) dX7_readHarbour_46 rfl ?_
    refine go_iconst (v := (-1)) dX7_readHarbour_48 rfl ?_
    refine go_icmp_ne 54 dX7_readHarbour_49 rfl (fun q => ?_) (fun q => ?_)
    · replace vc := vc.1 q
      refine go_iload (x := v2) dX7_readHarbour_54 rfl ?_
      refine go_aload_n (x := b) dX7_readHarbour_56 rfl ?_
      refine go_getI' (v := (h2.1 b 11)) dX7_readHarbour_57 f7_119 (slx hb) (fun _ _ => rfl) rfl ?_
      refine go_imul dX7_readHarbour_60 ?_
      refine go_iload_n (x := v1) dX7_readHarbour_61 rfl ?_
      refine go_iadd dX7_readHarbour_62 ?_
      refine go_istore dX7_readHarbour_63 (Nat.le_of_ble_eq_true rfl) ?_
      show gg p l e s m args below meth c G (d + 1) MX7_readHarbour Q 65 [some (.ref 5), some (.ref b), some (.int v1), some (.int (h1.1 1 4)), some (.int v2), some (.int ((v2 * (h2.1 b 11)) + v1))] [] h2
      refine go_aload_n (x := b) dX7_readHarbour_65 rfl ?_
      refine go_iload (x := ((v2 * (h2.1 b 11)) + v1)) dX7_readHarbour_66 rfl ?_
      refine gvI1 MX4_isHarbour dX7_readHarbour_68 lX7_170 kX4_isHarbour vX4_isHarbour (slx hb) (by decide) rfl (Nat.le_of_ble_eq_true rfl) vc ?_
      intro v3 h3 vc
      obtain ⟨hR3, vc⟩ := vc
      replace hR := hR3.trans hR
      refine go_if_ne 86 dX7_readHarbour_71 rfl (fun q => ?_) (fun q => ?_)
      · replace vc := vc.1 q
        refine go_iload (x := ((v2 * (h2.1 b 11)) + v1)) dX7_readHarbour_86 rfl ?_
        exact go_iret dX7_readHarbour_88 rfl vc rfl (Nat.le_refl _) (Nat.le_refl _)
      · replace vc := vc.2 q
        refine go_aload_n (x := 5) dX7_readHarbour_74 rfl ?_
        refine go_getR (x := 1) dX7_readHarbour_75 f7_9 sh5 (fun _ _ => rfl) (rf5_0 hR) ?_
        refine go_iconst (v := 2) dX7_readHarbour_78 rfl ?_
        refine go_iload_n (x := (h1.1 1 4)) dX7_readHarbour_79 rfl ?_
        refine gvI2 MX5_fail dX7_readHarbour_80 lX7_173 kX5_fail vX5_fail sh1 (by decide) rfl (Nat.le_of_ble_eq_true rfl) vc ?_
        intro v4 h4 vc
        obtain ⟨hR4, vc⟩ := vc
        replace hR := hR4.trans hR
        refine go_pop dX7_readHarbour_83 rfl ?_
        refine go_iconst (v := (-1)) dX7_readHarbour_84 rfl ?_
        exact go_iret dX7_readHarbour_85 rfl vc rfl (Nat.le_refl _) (Nat.le_refl _)
    · replace vc := vc.2 q
      refine go_iconst (v := (-1)) dX7_readHarbour_52 rfl ?_
      exact go_iret dX7_readHarbour_53 rfl vc rfl (Nat.le_refl _) (Nat.le_refl _)
  · replace vc := vc.2 q
    refine go_iconst (v := (-1)) dX7_readHarbour_20 rfl ?_
    exact go_iret dX7_readHarbour_21 rfl vc rfl (Nat.le_refl _) (Nat.le_refl _)
set_option maxRecDepth 20000 in
theorem wX7_readHand_0 {p : Program} {l : Launch} {e : Env} {s : State} {m : MethodId} {args : Array Value} {below : List Frame} {meth : Method} {c : Code} {G : gG} {d : Nat} {Q : Option Value → gH → Prop} {h : gH} {lk sp : Nat} {cd : Option Nat} {b : Nat} (hR : h.2.2 = gRF lk sp cd) (hlk : lk = 30 ∨ lk = 67) (hsp : sp = 30 ∨ sp = 67) (hb : b = 30 ∨ b = 67) (vc : gC l G d MX7_readNewName [.ref 5, .ref b] h (rI fun v1 h1 => h1.2.2 = (h).2.2 ∧ ((v1 = 0 → Q (some (.int 0)) h1) ∧ (¬ v1 = 0 → gC l G d MX5_takeWord [.ref 1, .int 6] h1 (rI fun v2 h2 => h2.2.2 = (h1).2.2 ∧ ((¬ v2 = 0 → gC l G d MX5_takeNumber [.ref 1, .int 0, .int 9] h2 (rI fun v3 h3 => h3.2.2 = (h2).2.2 ∧ ((v3 = (-1) → Q (some (.int 0)) h3) ∧ (¬ v3 = (-1) → (((h.1 b 14) < 0 → Q (some (.int 0)) h3) ∧ (¬ (h.1 b 14) < 0 → (((h.1 b 14) < 6 → (vp_in ((h.1 b 14)) 6 ∧ (vp_in ((h.1 b 14)) 6 ∧ Q (some (.int 1)) (sI (sI (sI h3 (b + 6) ((h.1 b 14) : Int32).toNatClampNeg v1) (b + 7) ((h.1 b 14) : Int32).toNatClampNeg v3) b 14 ((h3.1 b 14) + 1))))) ∧ (¬ (h.1 b 14) < 6 → Q (some (.int 0)) h3)))))))) ∧ (v2 = 0 → Q (some (.int 0)) h2))))))) : gg p l e s m args below meth c G (d + 1) MX7_readHand Q 0 [some (.ref 5), some (.ref b), none, none, none] [] h := by
  refine go_aload_n (x := b) dX7_readHand_0 rfl ?_
  refine go_getI' (v := (h.1 b 14)) dX7_readHand_1 f7_101 (slx hb) (fun _ _ => rfl) rfl ?_
  refine go_istore_n dX7_readHand_4 (Nat.le_of_ble_eq_true rfl) ?_
  show gg p l e s m args below meth c G (d + 1) MX7_readHand Q 5 [some (.ref 5), some (.ref b), some (.int (h.1 b 14)), none, none] [] h
  refine go_aload_n (x := 5) dX7_readHand_5 rfl ?_
  refine go_aload_n (x := b) dX7_readHand_6 rfl ?_
  refine gvI1 MX7_readNewName dX7_readHand_7 lX7_151 kX7_readNewName vX7_readNewName sh5 (by decide) rfl (Nat.le_of_ble_eq_true rfl) vc ?_
  intro v1 h1 vc
  obtain ⟨hR1, vc⟩ := vc
  replace hR := hR1.trans hR
  refine go_istore_n dX7_readHand_10 (Nat.le_of_ble_eq_true rfl) ?_
  show gg p l e s m args below meth c G (d + 1) MX7_readHand Q 11 [some (.ref 5), some (.ref b), some (.int (h.1 b 14)), some (.int v1), none] [] h1
  refine go_iload_n (x := v1) dX7_readHand_11 rfl ?_
  refine go_if_eq 27 dX7_readHand_12 rfl (fun q => ?_) (fun q => ?_)
  · replace vc := vc.1 q
    refine go_iconst (v := 0) dX7_readHand_27 rfl ?_
    exact go_zret dX7_readHand_28 rfl (by decide) vc rfl (Nat.le_refl _) (Nat.le_refl _)
  · replace vc := vc.2 q
    refine go_aload_n (x := 5) dX7_readHand_15 rfl ?_
    refine go_getR (x := 1) dX7_readHand_16 f7_9 sh5 (fun _ _ => rfl) (rf5_0 hR) ?_
    refine go_bipush (v := 6) dX7_readHand_19 rfl ?_
    refine gvI1 MX5_takeWord dX7_readHand_21 lX7_155 kX5_takeWord vX5_takeWord sh1 (by decide) rfl (Nat.le_of_ble_eq_true rfl) vc ?_
    intro v2 h2 vc
    obtain ⟨hR2, vc⟩ := vc
    replace hR := hR2.trans hR
    refine go_if_ne 29 dX7_readHand_24 rfl (fun q => ?_) (fun q => ?_)
    · replace vc := vc.1 q
      refine go_aload_n (x := 5) dX7_readHand_29 rfl ?_
      refine go_getR (x := 1) dX7_readHand_30 f7_9 sh5 (fun _ _ => rfl) (rf5_0 hR) ?_
      refine go_iconst (v := 0) dX7_readHand_33 rfl ?_
      refine go_bipush (v := 9) dX7_readHand_34 rfl ?_
      refine gvI2 MX5_takeNumber dX7_readHand_36 lX7_115 kX5_takeNumber vX5_takeNumber sh1 (by decide) rfl (Nat.le_of_ble_eq_true rfl) vc ?_
      intro v3 h3 vc
      obtain ⟨hR3, vc⟩ := vc
      replace hR := hR3.trans hR
      refine go_istore dX7_readHand_39 (Nat.le_of_ble_eq_true rfl) ?_
      show gg p l e s m args below meth c G (d + 1) MX7_readHand Q 41 [some (.ref 5), some (.ref b), some (.int (h.1 b 14)), some (.int v1), some (.int v3)] [] h3
      refine go_iload (x := v3) dX7_readHand_41 rfl ?_
      refine go_iconst (v := (-1)) dX7_readHand_43 rfl ?_
      refine go_icmp_eq 57 dX7_readHand_44 rfl (fun q => ?_) (fun q => ?_)
      · replace vc := vc.1 q
        refine go_iconst (v := 0) dX7_readHand_57 rfl ?_
        exact go_zret dX7_readHand_58 rfl (by decide) vc rfl (Nat.le_refl _) (Nat.le_refl _)
      · replace vc := vc.2 q
        refine go_iload_n (x := (h.1 b 14)) dX7_readHand_47 rfl ?_
        refine go_if_lt 57 dX7_readHand_48 rfl (fun q => ?_) (fun q => ?_)
        · replace vc := vc.1 q
          refine go_iconst (v := 0) dX7_readHand_57 rfl ?_
          exact go_zret dX7_readHand_58 rfl (by decide) vc rfl (Nat.le_refl _) (Nat.le_refl _)
        · replace vc := vc.2 q
          refine go_iload_n (x := (h.1 b 14)) dX7_readHand_51 rfl ?_
          refine go_bipush (v := 6) dX7_readHand_52 rfl ?_
          refine go_icmp_lt 59 dX7_readHand_54 rfl (fun q => ?_) (fun q => ?_)
          · replace vc := vc.1 q
            refine go_aload_n (x := b) dX7_readHand_59 rfl ?_
            refine go_getR (x := (b + 6)) dX7_readHand_60 f7_177 (slx hb) (fun _ _ => rfl) (rl_s hR hb (by decide)) ?_
            refine go_iload_n (x := (h.1 b 14)) dX7_readHand_63 rfl ?_
            refine go_iload_n (x := v1) dX7_readHand_64 rfl ?_
            refine go_iast dX7_readHand_65 (sl6 hb) vc.1 ?_
            have vc := vc.2
            show gg p l e s m args below meth c G (d + 1) MX7_readHand Q 66 [some (.ref 5), some (.ref b), some (.int (h.1 b 14)), some (.int v1), some (.int v3)] [] (sI h3 (b + 6) ((h.1 b 14) : Int32).toNatClampNeg v1)
            refine go_aload_n (x := b) dX7_readHand_66 rfl ?_
            refine go_getR (x := (b + 7)) dX7_readHand_67 f7_180 (slx hb) (fun _ _ => rfl) (rl_s hR hb (by decide)) ?_
            refine go_iload_n (x := (h.1 b 14)) dX7_readHand_70 rfl ?_
            refine go_iload (x := v3) dX7_readHand_71 rfl ?_
            refine go_iast dX7_readHand_73 (sl7 hb) vc.1 ?_
            have vc := vc.2
            show gg p l e s m args below meth c G (d + 1) MX7_readHand Q 74 [some (.ref 5), some (.ref b), some (.int (h.1 b 14)), some (.int v1), some (.int v3)] [] (sI (sI h3 (b + 6) ((h.1 b 14) : Int32).toNatClampNeg v1) (b + 7) ((h.1 b 14) : Int32).toNatClampNeg v3)
            refine go_aload_n (x := b) dX7_readHand_74 rfl ?_
            refine go_dup dX7_readHand_75 rfl ?_
            refine go_getI' (v := (h3.1 b 14)) dX7_readHand_76 f7_101 (slx hb) (fun _ _ => rfl) (by first | rfl | simp [sI, sL]) ?_
            refine go_iconst (v := 1) dX7_readHand_79 rfl ?_
            refine go_iadd dX7_readHand_80 ?_
            refine go_putI dX7_readHand_81 f7_101 (slx hb) rfl rfl ?_
            refine go_iconst (v := 1) dX7_readHand_84 rfl ?_
            exact go_zret dX7_readHand_85 rfl (by decide) vc rfl (Nat.le_refl _) (Nat.le_refl _)
          · replace vc := vc.2 q
            refine go_iconst (v := 0) dX7_readHand_57 rfl ?_
            exact go_zret dX7_readHand_58 rfl (by decide) vc rfl (Nat.le_refl _) (Nat.le_refl _)
    · replace vc := vc.2 q
      refine go_iconst (v := 0) dX7_readHand_27 rfl ?_
      exact go_zret dX7_readHand_28 rfl (by decide) vc rfl (Nat.le_refl _) (Nat.le_refl _)
set_option maxRecDepth 20000 in
theorem wX7_readNewName_0 {p : Program} {l : Launch} {e : Env} {s : State} {m : MethodId} {args : Array Value} {below : List Frame} {meth : Method} {c : Code} {G : gG} {d : Nat} {Q : Option Value → gH → Prop} {h : gH} {lk sp : Nat} {cd : Option Nat} {b : Nat} (hR : h.2.2 = gRF lk sp cd) (hlk : lk = 30 ∨ lk = 67) (hsp : sp = 30 ∨ sp = 67) (hb : b = 30 ∨ b = 67) (vc : gC l G d MX5_move [.ref 1] h (rV fun h1 => h1.2.2 = (h).2.2 ∧ gC l G d MX5_isAtName [.ref 1] h1 (rI fun v2 h2 => h2.2.2 = (h1).2.2 ∧ ((¬ v2 = 0 → gC l G d MX7_find [.ref (b + 3), .int (h2.1 b 13), .int (h2.1 1 7)] h2 (rI fun v3 h3 => h3.2.2 = (h2).2.2 ∧ ((¬ v3 = (-1) → gC l G d MX5_failHere [.ref 1, .int 3] h3 (rI fun v4 h4 => h4.2.2 = (h3).2.2 ∧ Q (some (.int 0)) h4)) ∧ (v3 = (-1) → gC l G d MX7_find [.ref (b + 6), .int (h3.1 b 14), .int (h2.1 1 7)] h3 (rI fun v5 h5 => h5.2.2 = (h3).2.2 ∧ ((v5 = (-1) → gC l G d MX5_move [.ref 1] h5 (rV fun h6 => h6.2.2 = (h5).2.2 ∧ Q (some (.int (h2.1 1 7))) h6)) ∧ (¬ v5 = (-1) → gC l G d MX5_failHere [.ref 1, .int 3] h5 (rI fun v7 h7 => h7.2.2 = (h5).2.2 ∧ Q (some (.int 0)) h7)))))))) ∧ (v2 = 0 → Q (some (.int 0)) h2))))) : gg p l e s m args below meth c G (d + 1) MX7_readNewName Q 0 [some (.ref 5), some (.ref b), none] [] h := by
  refine go_aload_n (x := 5) dX7_readNewName_0 rfl ?_
  refine go_getR (x := 1) dX7_readNewName_1 f7_9 sh5 (fun _ _ => rfl) (rf5_0 hR) ?_
  refine gvV0 MX5_move dX7_readNewName_4 lX7_112 kX5_move vX5_move sh1 (by decide) rfl (Nat.le_of_ble_eq_true rfl) vc ?_
  intro h1 vc
  obtain ⟨hR1, vc⟩ := vc
  replace hR := hR1.trans hR
  refine go_aload_n (x := 5) dX7_readNewName_7 rfl ?_
  refine go_getR (x := 1) dX7_readNewName_8 f7_9 sh5 (fun _ _ => rfl) (rf5_0 hR) ?_
  refine gvI0 MX5_isAtName dX7_readNewName_11 lX7_183 kX5_isAtName vX5_isAtName sh1 (by decide) rfl (Nat.le_of_ble_eq_true rfl) vc ?_
  intro v2 h2 vc
  obtain ⟨hR2, vc⟩ := vc
  replace hR := hR2.trans hR
  refine go_if_ne 19 dX7_readNewName_14 rfl (fun q => ?_) (fun q => ?_)
  · replace vc := vc.1 q
    refine go_aload_n (x := 5) dX7_readNewName_19 rfl ?_
    refine go_getR (x := 1) dX7_readNewName_20 f7_9 sh5 (fun _ _ => rfl) (rf5_0 hR) ?_
    refine go_getI' (v := (h2.1 1 7)) dX7_readNewName_23 f7_187 sh1 (fun _ _ => rfl) rfl ?_
    refine go_istore_n dX7_readNewName_26 (Nat.le_of_ble_eq_true rfl) ?_
    show gg p l e s m args below meth c G (d + 1) MX7_readNewName Q 27 [some (.ref 5), some (.ref b), some (.int (h2.1 1 7))] [] h2
    refine go_aload_n (x := b) dX7_readNewName_27 rfl ?_
    refine go_getR (x := (b + 3)) dX7_readNewName_28 f7_161 (slx hb) (fun _ _ => rfl) (rl_s hR hb (by decide)) ?_
    refine go_aload_n (x := b) dX7_readNewName_31 rfl ?_
    refine go_getI' (v := (h2.1 b 13)) dX7_readNewName_32 f7_98 (slx hb) (fun _ _ => rfl) rfl ?_
    refine go_iload_n (x := (h2.1 1 7)) dX7_readNewName_35 rfl ?_
    refine gsI3 MX7_find dX7_readNewName_36 lX7_190 kX7_find sX7_find (Nat.le_of_ble_eq_true rfl) vc ?_
    intro v3 h3 vc
    obtain ⟨hR3, vc⟩ := vc
    replace hR := hR3.trans hR
    refine go_iconst (v := (-1)) dX7_readNewName_39 rfl ?_
    refine go_icmp_ne 59 dX7_readNewName_40 rfl (fun q => ?_) (fun q => ?_)
    · replace vc := vc.1 q
      refine go_aload_n (x := 5) dX7_readNewName_59 rfl ?_
      refine go_getR (x := 1) dX7_readNewName_60 f7_9 sh5 (fun _ _ => rfl) (rf5_0 hR) ?_
      refine go_iconst (v := 3) dX7_readNewName_63 rfl ?_
      refine gvI1 MX5_failHere dX7_readNewName_64 lX7_33 kX5_failHere vX5_failHere sh1 (by decide) rfl (Nat.le_of_ble_eq_true rfl) vc ?_
      intro v4 h4 vc
      obtain ⟨hR4, vc⟩ := vc
      replace hR := hR4.trans hR
      refine go_pop dX7_readNewName_67 rfl ?_
      refine go_iconst (v := 0) dX7_readNewName_68 rfl ?_
      exact go_iret dX7_readNewName_69 rfl vc rfl (Nat.le_refl _) (Nat.le_refl _)
    · replace vc := vc.2 q
      refine go_aload_n (x := b) dX7_readNewName_43 rfl ?_
      refine go_getR (x := (b + 6)) dX7_readNewName_44 f7_177 (slx hb) (fun _ _ => rfl) (rl_s hR hb (by decide)) ?_
      refine go_aload_n (x := b) dX7_readNewName_47 rfl ?_
      refine go_getI' (v := (h3.1 b 14)) dX7_readNewName_48 f7_101 (slx hb) (fun _ _ => rfl) rfl ?_
      refine go_iload_n (x := (h2.1 1 7)) dX7_readNewName_51 rfl ?_
      refine gsI3 MX7_find dX7_readNewName_52 lX7_190 kX7_find sX7_find (Nat.le_of_ble_eq_true rfl) vc ?_
      intro v5 h5 vc
      obtain ⟨hR5, vc⟩ := vc
      replace hR := hR5.trans hR
      refine go_iconst (v := (-1)) dX7_readNewName_55 rfl ?_
      refine go_icmp_eq 70 dX7_readNewName_56 rfl (fun q => ?_) (fun q => ?_)
      · replace vc := vc.1 q
        refine go_aload_n (x := 5) dX7_readNewName_70 rfl ?_
        refine go_getR (x := 1) dX7_readNewName_71 f7_9 sh5 (fun _ _ => rfl) (rf5_0 hR) ?_
        refine gvV0 MX5_move dX7_readNewName_74 lX7_112 kX5_move vX5_move sh1 (by decide) rfl (Nat.le_of_ble_eq_true rfl) vc ?_
        intro h6 vc
        obtain ⟨hR6, vc⟩ := vc
        replace hR := hR6.trans hR
        refine go_iload_n (x := (h2.1 1 7)) dX7_readNewName_77 rfl ?_
        exact go_iret dX7_readNewName_78 rfl vc rfl (Nat.le_refl _) (Nat.le_refl _)
      · replace vc := vc.2 q
        refine go_aload_n (x := 5) dX7_readNewName_59 rfl ?_
        refine go_getR (x := 1) dX7_readNewName_60 f7_9 sh5 (fun _ _ => rfl) (rf5_0 hR) ?_
        refine go_iconst (v := 3) dX7_readNewName_63 rfl ?_
        refine gvI1 MX5_failHere dX7_readNewName_64 lX7_33 kX5_failHere vX5_failHere sh1 (by decide) rfl (Nat.le_of_ble_eq_true rfl) vc ?_
        intro v7 h7 vc
        obtain ⟨hR7, vc⟩ := vc
        replace hR := hR7.trans hR
        refine go_pop dX7_readNewName_67 rfl ?_
        refine go_iconst (v := 0) dX7_readNewName_68 rfl ?_
        exact go_iret dX7_readNewName_69 rfl vc rfl (Nat.le_refl _) (Nat.le_refl _)
  · replace vc := vc.2 q
    refine go_iconst (v := 0) dX7_readNewName_17 rfl ?_
    exact go_iret dX7_readNewName_18 rfl vc rfl (Nat.le_refl _) (Nat.le_refl _)
set_option maxRecDepth 20000 in
theorem wX7_readKnownName_0 {p : Program} {l : Launch} {e : Env} {s : State} {m : MethodId} {args : Array Value} {below : List Frame} {meth : Method} {c : Code} {G : gG} {d : Nat} {Q : Option Value → gH → Prop} {h : gH} {lk sp : Nat} {cd : Option Nat} {w1 n1 : Nat} {a2 : Int32} (hR : h.2.2 = gRF lk sp cd) (hlk : lk = 30 ∨ lk = 67) (hsp : sp = 30 ∨ sp = 67) (hw1 : gSH[w1]? = some (20, n1)) (vc : gC l G d MX5_isAtName [.ref 1] h (rI fun v1 h1 => h1.2.2 = (h).2.2 ∧ ((¬ v1 = 0 → gC l G d MX7_find [.ref w1, .int a2, .int (h1.1 1 7)] h1 (rI fun v2 h2 => h2.2.2 = (h1).2.2 ∧ ((¬ v2 = (-1) → gC l G d MX5_move [.ref 1] h2 (rV fun h3 => h3.2.2 = (h2).2.2 ∧ Q (some (.int v2)) h3)) ∧ (v2 = (-1) → gC l G d MX5_failHere [.ref 1, .int 3] h2 (rI fun v4 h4 => h4.2.2 = (h2).2.2 ∧ Q (some (.int (-1))) h4))))) ∧ (v1 = 0 → Q (some (.int (-1))) h1)))) : gg p l e s m args below meth c G (d + 1) MX7_readKnownName Q 0 [some (.ref 5), some (.ref w1), some (.int a2), none] [] h := by
  refine go_aload_n (x := 5) dX7_readKnownName_0 rfl ?_
  refine go_getR (x := 1) dX7_readKnownName_1 f7_9 sh5 (fun _ _ => rfl) (rf5_0 hR) ?_
  refine gvI0 MX5_isAtName dX7_readKnownName_4 lX7_183 kX5_isAtName vX5_isAtName sh1 (by decide) rfl (Nat.le_of_ble_eq_true rfl) vc ?_
  intro v1 h1 vc
  obtain ⟨hR1, vc⟩ := vc
  replace hR := hR1.trans hR
  refine go_if_ne 12 dX7_readKnownName_7 rfl (fun q => ?_) (fun q => ?_)
  · replace vc := vc.1 q
    refine go_aload_n (x := w1) dX7_readKnownName_12 rfl ?_
    refine go_iload_n (x := a2) dX7_readKnownName_13 rfl ?_
    refine go_aload_n (x := 5) dX7_readKnownName_14 rfl ?_
    refine go_getR (x := 1) dX7_readKnownName_15 f7_9 sh5 (fun _ _ => rfl) (rf5_0 hR) ?_
    refine go_getI' (v := (h1.1 1 7)) dX7_readKnownName_18 f7_187 sh1 (fun _ _ => rfl) rfl ?_
    refine gsI3 MX7_find dX7_readKnownName_21 lX7_190 kX7_find sX7_find (Nat.le_of_ble_eq_true rfl) vc ?_
    intro v2 h2 vc
    obtain ⟨hR2, vc⟩ := vc
    replace hR := hR2.trans hR
    refine go_istore_n dX7_readKnownName_24 (Nat.le_of_ble_eq_true rfl) ?_
    show gg p l e s m args below meth c G (d + 1) MX7_readKnownName Q 25 [some (.ref 5), some (.ref w1), some (.int a2), some (.int v2)] [] h2
    refine go_iload_n (x := v2) dX7_readKnownName_25 rfl ?_
    refine go_iconst (v := (-1)) dX7_readKnownName_26 rfl ?_
    refine go_icmp_ne 41 dX7_readKnownName_27 rfl (fun q => ?_) (fun q => ?_)
    · replace vc := vc.1 q
      refine go_aload_n (x := 5) dX7_readKnownName_41 rfl ?_
      refine go_getR (x := 1) dX7_readKnownName_42 f7_9 sh5 (fun _ _ => rfl) (rf5_0 hR) ?_
      refine gvV0 MX5_move dX7_readKnownName_45 lX7_112 kX5_move vX5_move sh1 (by decide) rfl (Nat.le_of_ble_eq_true rfl) vc ?_
      intro h3 vc
      obtain ⟨hR3, vc⟩ := vc
      replace hR := hR3.trans hR
      refine go_iload_n (x := v2) dX7_readKnownName_48 rfl ?_
      exact go_iret dX7_readKnownName_49 rfl vc rfl (Nat.le_refl _) (Nat.le_refl _)
    · replace vc := vc.2 q
      refine go_aload_n (x := 5) dX7_readKnownName_30 rfl ?_
      refine go_getR (x := 1) dX7_readKnownName_31 f7_9 sh5 (fun _ _ => rfl) (rf5_0 hR) ?_
      refine go_iconst (v := 3) dX7_readKnownName_34 rfl ?_
      refine gvI1 MX5_failHere dX7_readKnownName_35 lX7_33 kX5_failHere vX5_failHere sh1 (by decide) rfl (Nat.le_of_ble_eq_true rfl) vc ?_
      intro v4 h4 vc
      obtain ⟨hR4, vc⟩ := vc
      replace hR := hR4.trans hR
      refine go_pop dX7_readKnownName_38 rfl ?_
      refine go_iconst (v := (-1)) dX7_readKnownName_39 rfl ?_
      exact go_iret dX7_readKnownName_40 rfl vc rfl (Nat.le_refl _) (Nat.le_refl _)
  · replace vc := vc.2 q
    refine go_iconst (v := (-1)) dX7_readKnownName_10 rfl ?_
    exact go_iret dX7_readKnownName_11 rfl vc rfl (Nat.le_refl _) (Nat.le_refl _)
set_option maxRecDepth 20000 in
theorem wX7_find_0 {p : Program} {l : Launch} {e : Env} {s : State} {m : MethodId} {args : Array Value} {below : List Frame} {meth : Method} {c : Code} {G : gG} {d : Nat} {Q : Option Value → gH → Prop} {h : gH} {lk sp : Nat} {cd : Option Nat} {w1 n1 : Nat} {a2 : Int32} {a3 : Int32} (hR : h.2.2 = gRF lk sp cd) (hlk : lk = 30 ∨ lk = 67) (hsp : sp = 30 ∨ sp = 67) (hw1 : gSH[w1]? = some (20, n1)) (vc : gg p l e s m args below meth c G d MX7_find Q 2 [some (.ref w1), some (.int a2), some (.int a3), some (.int 0)] [] h) : gg p l e s m args below meth c G d MX7_find Q 0 [some (.ref w1), some (.int a2), some (.int a3), none] [] h := by
  refine go_iconst (v := 0) dX7_find_0 rfl ?_
  refine go_istore_n dX7_find_1 (Nat.le_of_ble_eq_true rfl) ?_
  show gg p l e s m args below meth c G d MX7_find Q 2 [some (.ref w1), some (.int a2), some (.int a3), some (.int 0)] [] h
  exact vc
set_option maxRecDepth 20000 in
theorem wX7_find_2 {p : Program} {l : Launch} {e : Env} {s : State} {m : MethodId} {args : Array Value} {below : List Frame} {meth : Method} {c : Code} {G : gG} {d : Nat} {Q : Option Value → gH → Prop} {h : gH} {lk sp : Nat} {cd : Option Nat} {w1 n1 : Nat} {x1 : Int32} {x2 : Int32} {x3 : Int32} (hR : h.2.2 = gRF lk sp cd) (hlk : lk = 30 ∨ lk = 67) (hsp : sp = 30 ∨ sp = 67) (hw1 : gSH[w1]? = some (20, n1)) (vc : ((x1 ≤ x3 → Q (some (.int (-1))) h) ∧ (¬ x1 ≤ x3 → (((Int32.ofNat n1) ≤ x3 → Q (some (.int (-1))) h) ∧ (¬ (Int32.ofNat n1) ≤ x3 → (vp_in x3 n1 ∧ ((¬ (h.1 w1 x3.toNatClampNeg) = x2 → gg p l e s m args below meth c G d MX7_find Q 2 [some (.ref w1), some (.int x1), some (.int x2), some (.int (x3 + 1))] [] h) ∧ ((h.1 w1 x3.toNatClampNeg) = x2 → Q (some (.int x3)) h)))))))) : gg p l e s m args below meth c G d MX7_find Q 2 [some (.ref w1), some (.int x1), some (.int x2), some (.int x3)] [] h := by
  refine go_iload_n (x := x3) dX7_find_2 rfl ?_
  refine go_iload_n (x := x1) dX7_find_3 rfl ?_
  refine go_icmp_ge 28 dX7_find_4 rfl (fun q => ?_) (fun q => ?_)
  · replace vc := vc.1 q
    refine go_iconst (v := (-1)) dX7_find_28 rfl ?_
    exact go_iret dX7_find_29 rfl vc rfl (Nat.le_refl _) (Nat.le_refl _)
  · replace vc := vc.2 q
    refine go_iload_n (x := x3) dX7_find_7 rfl ?_
    refine go_aload_n (x := w1) dX7_find_8 rfl ?_
    refine go_alen (v := (Int32.ofNat n1)) dX7_find_9 hw1 (by decide) rfl ?_
    refine go_icmp_ge 28 dX7_find_10 rfl (fun q => ?_) (fun q => ?_)
    · replace vc := vc.1 q
      refine go_iconst (v := (-1)) dX7_find_28 rfl ?_
      exact go_iret dX7_find_29 rfl vc rfl (Nat.le_refl _) (Nat.le_refl _)
    · replace vc := vc.2 q
      refine go_aload_n (x := w1) dX7_find_13 rfl ?_
      refine go_iload_n (x := x3) dX7_find_14 rfl ?_
      refine go_iald' (v := (h.1 w1 x3.toNatClampNeg)) dX7_find_15 hw1 vc.1 rfl ?_
      have vc := vc.2
      refine go_iload_n (x := x2) dX7_find_16 rfl ?_
      refine go_icmp_ne 22 dX7_find_17 rfl (fun q => ?_) (fun q => ?_)
      · replace vc := vc.1 q
        refine go_iinc (x := x3) dX7_find_22 rfl ?_
        show gg p l e s m args below meth c G d MX7_find Q 25 [some (.ref w1), some (.int x1), some (.int x2), some (.int (x3 + 1))] [] h
        refine go_goto 2 dX7_find_25 rfl ?_
        exact vc
      · replace vc := vc.2 q
        refine go_iload_n (x := x3) dX7_find_20 rfl ?_
        exact go_iret dX7_find_21 rfl vc rfl (Nat.le_refl _) (Nat.le_refl _)
set_option maxRecDepth 20000 in
theorem wX7_readLikes_0 {p : Program} {l : Launch} {e : Env} {s : State} {m : MethodId} {args : Array Value} {below : List Frame} {meth : Method} {c : Code} {G : gG} {d : Nat} {Q : Option Value → gH → Prop} {h : gH} {lk sp : Nat} {cd : Option Nat} {b : Nat} (hR : h.2.2 = gRF lk sp cd) (hlk : lk = 30 ∨ lk = 67) (hsp : sp = 30 ∨ sp = 67) (hb : b = 30 ∨ b = 67) (vc : gC l G d MX5_move [.ref 1] h (rV fun h1 => h1.2.2 = (h).2.2 ∧ gC l G d MX7_readKnownName [.ref 5, .ref (b + 3), .int (h1.1 b 13)] h1 (rI fun v2 h2 => h2.2.2 = (h1).2.2 ∧ ((¬ v2 = (-1) → gC l G d MX7_readKnownName [.ref 5, .ref (b + 6), .int (h2.1 b 14)] h2 (rI fun v3 h3 => h3.2.2 = (h2).2.2 ∧ ((¬ v3 = (-1) → gC l G d MX5_takeNumber [.ref 1, .int 0, .int 99] h3 (rI fun v4 h4 => h4.2.2 = (h3).2.2 ∧ ((v4 = (-1) → Q (some (.int 0)) h4) ∧ (¬ v4 = (-1) → gC l G d MX4_isBoat [.ref b, .int v2] h4 (rI fun v5 h5 => h5.2.2 = (h4).2.2 ∧ ((v5 = 0 → Q (some (.int 0)) h5) ∧ (¬ v5 = 0 → gC l G d MX4_isHand [.ref b, .int v3] h5 (rI fun v6 h6 => h6.2.2 = (h5).2.2 ∧ ((¬ v6 = 0 → (vp_in (((v2 * 6) + v3)) 36 ∧ Q (some (.int 1)) (sI h6 (b + 8) (((v2 * 6) + v3) : Int32).toNatClampNeg v4))) ∧ (v6 = 0 → Q (some (.int 0)) h6)))))))))) ∧ (v3 = (-1) → Q (some (.int 0)) h3)))) ∧ (v2 = (-1) → Q (some (.int 0)) h2))))) : gg p l e s m args below meth c G (d + 1) MX7_readLikes Q 0 [some (.ref 5), some (.ref b), none, none, none] [] h := by
  refine go_aload_n (x := 5) dX7_readLikes_0 rfl ?_
  refine go_getR (x := 1) dX7_readLikes_1 f7_9 sh5 (fun _ _ => rfl) (rf5_0 hR) ?_
  refine gvV0 MX5_move dX7_readLikes_4 lX7_112 kX5_move vX5_move sh1 (by decide) rfl (Nat.le_of_ble_eq_true rfl) vc ?_
  intro h1 vc
  obtain ⟨hR1, vc⟩ := vc
  replace hR := hR1.trans hR
  refine go_aload_n (x := 5) dX7_readLikes_7 rfl ?_
  refine go_aload_n (x := b) dX7_readLikes_8 rfl ?_
  refine go_getR (x := (b + 3)) dX7_readLikes_9 f7_161 (slx hb) (fun _ _ => rfl) (rl_s hR hb (by decide)) ?_
  refine go_aload_n (x := b) dX7_readLikes_12 rfl ?_
  refine go_getI' (v := (h1.1 b 13)) dX7_readLikes_13 f7_98 (slx hb) (fun _ _ => rfl) rfl ?_
  refine gvI2 MX7_readKnownName dX7_readLikes_16 lX7_194 kX7_readKnownName vX7_readKnownName sh5 (by decide) rfl (Nat.le_of_ble_eq_true rfl) vc ?_
  intro v2 h2 vc
  obtain ⟨hR2, vc⟩ := vc
  replace hR := hR2.trans hR
  refine go_istore_n dX7_readLikes_19 (Nat.le_of_ble_eq_true rfl) ?_
  show gg p l e s m args below meth c G (d + 1) MX7_readLikes Q 20 [some (.ref 5), some (.ref b), some (.int v2), none, none] [] h2
  refine go_iload_n (x := v2) dX7_readLikes_20 rfl ?_
  refine go_iconst (v := (-1)) dX7_readLikes_21 rfl ?_
  refine go_icmp_ne 27 dX7_readLikes_22 rfl (fun q => ?_) (fun q => ?_)
  · replace vc := vc.1 q
    refine go_aload_n (x := 5) dX7_readLikes_27 rfl ?_
    refine go_aload_n (x := b) dX7_readLikes_28 rfl ?_
    refine go_getR (x := (b + 6)) dX7_readLikes_29 f7_177 (slx hb) (fun _ _ => rfl) (rl_s hR hb (by decide)) ?_
    refine go_aload_n (x := b) dX7_readLikes_32 rfl ?_
    refine go_getI' (v := (h2.1 b 14)) dX7_readLikes_33 f7_101 (slx hb) (fun _ _ => rfl) rfl ?_
    refine gvI2 MX7_readKnownName dX7_readLikes_36 lX7_194 kX7_readKnownName vX7_readKnownName sh5 (by decide) rfl (Nat.le_of_ble_eq_true rfl) vc ?_
    intro v3 h3 vc
    obtain ⟨hR3, vc⟩ := vc
    replace hR := hR3.trans hR
    refine go_istore_n dX7_readLikes_39 (Nat.le_of_ble_eq_true rfl) ?_
    show gg p l e s m args below meth c G (d + 1) MX7_readLikes Q 40 [some (.ref 5), some (.ref b), some (.int v2), some (.int v3), none] [] h3
    refine go_iload_n (x := v3) dX7_readLikes_40 rfl ?_
    refine go_iconst (v := (-1)) dX7_readLikes_41 rfl ?_
    refine go_icmp_ne 47 dX7_readLikes_42 rfl (fun q => ?_) (fun q => ?_)
    · replace vc := vc.1 q
      refine go_aload_n (x := 5) dX7_readLikes_47 rfl ?_
      refine go_getR (x := 1) dX7_readLikes_48 f7_9 sh5 (fun _ _ => rfl) (rf5_0 hR) ?_
      refine go_iconst (v := 0) dX7_readLikes_51 rfl ?_
      refine go_bipush (v := 99) dX7_readLikes_52 rfl ?_
      refine gvI2 MX5_takeNumber dX7_readLikes_54 lX7_115 kX5_takeNumber vX5_takeNumber sh1 (by decide) rfl (Nat.le_of_ble_eq_true rfl) vc ?_
      intro v4 h4 vc
      obtain ⟨hR4, vc⟩ := vc
      replace hR := hR4.trans hR
      refine go_istore dX7_readLikes_57 (Nat.le_of_ble_eq_true rfl) ?_
      show gg p l e s m args below meth c G (d + 1) MX7_readLikes Q 59 [some (.ref 5), some (.ref b), some (.int v2), some (.int v3), some (.int v4)] [] h4
      refine go_iload (x := v4) dX7_readLikes_59 rfl ?_
      refine go_iconst (v := (-1)) dX7_readLikes_61 rfl ?_
      refine go_icmp_eq 81 dX7_readLikes_62 rfl (fun q => ?_) (fun q => ?_)
      · replace vc := vc.1 q
        refine go_iconst (v := 0) dX7_readLikes_81 rfl ?_
        exact go_zret dX7_readLikes_82 rfl (by decide) vc rfl (Nat.le_refl _) (Nat.le_refl _)
      · replace vc := vc.2 q
        refine go_aload_n (x := b) dX7_readLikes_65 rfl ?_
        refine go_iload_n (x := v2) dX7_readLikes_66 rfl ?_
        refine gvI1 MX4_isBoat dX7_readLikes_67 lX7_198 kX4_isBoat vX4_isBoat (slx hb) (by decide) rfl (Nat.le_of_ble_eq_true rfl) vc ?_
        intro v5 h5 vc
        obtain ⟨hR5, vc⟩ := vc
        replace hR := hR5.trans hR
        refine go_if_eq 81 dX7_readLikes_70 rfl (fun q => ?_) (fun q => ?_)
        · replace vc := vc.1 q
          refine go_iconst (v := 0) dX7_readLikes_81 rfl ?_
          exact go_zret dX7_readLikes_82 rfl (by decide) vc rfl (Nat.le_refl _) (Nat.le_refl _)
        · replace vc := vc.2 q
          refine go_aload_n (x := b) dX7_readLikes_73 rfl ?_
          refine go_iload_n (x := v3) dX7_readLikes_74 rfl ?_
          refine gvI1 MX4_isHand dX7_readLikes_75 lX7_201 kX4_isHand vX4_isHand (slx hb) (by decide) rfl (Nat.le_of_ble_eq_true rfl) vc ?_
          intro v6 h6 vc
          obtain ⟨hR6, vc⟩ := vc
          replace hR := hR6.trans hR
          refine go_if_ne 83 dX7_readLikes_78 rfl (fun q => ?_) (fun q => ?_)
          · replace vc := vc.1 q
            refine go_aload_n (x := b) dX7_readLikes_83 rfl ?_
            refine go_getR (x := (b + 8)) dX7_readLikes_84 f7_204 (slx hb) (fun _ _ => rfl) (rl_s hR hb (by decide)) ?_
            refine go_iload_n (x := v2) dX7_readLikes_87 rfl ?_
            refine go_bipush (v := 6) dX7_readLikes_88 rfl ?_
            refine go_imul dX7_readLikes_90 ?_
            refine go_iload_n (x := v3) dX7_readLikes_91 rfl ?_
            refine go_iadd dX7_readLikes_92 ?_
            refine go_iload (x := v4) dX7_readLikes_93 rfl ?_
            refine go_iast dX7_readLikes_95 (sl8 hb) vc.1 ?_
            have vc := vc.2
            show gg p l e s m args below meth c G (d + 1) MX7_readLikes Q 96 [some (.ref 5), some (.ref b), some (.int v2), some (.int v3), some (.int v4)] [] (sI h6 (b + 8) (((v2 * 6) + v3) : Int32).toNatClampNeg v4)
            refine go_iconst (v := 1) dX7_readLikes_96 rfl ?_
            exact go_zret dX7_readLikes_97 rfl (by decide) vc rfl (Nat.le_refl _) (Nat.le_refl _)
          · replace vc := vc.2 q
            refine go_iconst (v := 0) dX7_readLikes_81 rfl ?_
            exact go_zret dX7_readLikes_82 rfl (by decide) vc rfl (Nat.le_refl _) (Nat.le_refl _)
    · replace vc := vc.2 q
      refine go_iconst (v := 0) dX7_readLikes_45 rfl ?_
      exact go_zret dX7_readLikes_46 rfl (by decide) vc rfl (Nat.le_refl _) (Nat.le_refl _)
  · replace vc := vc.2 q
    refine go_iconst (v := 0) dX7_readLikes_25 rfl ?_
    exact go_zret dX7_readLikes_26 rfl (by decide) vc rfl (Nat.le_refl _) (Nat.le_refl _)
set_option maxRecDepth 20000 in
theorem wX7_readSky_0 {p : Program} {l : Launch} {e : Env} {s : State} {m : MethodId} {args : Array Value} {below : List Frame} {meth : Method} {c : Code} {G : gG} {d : Nat} {Q : Option Value → gH → Prop} {h : gH} {lk sp : Nat} {cd : Option Nat} {b : Nat} (hR : h.2.2 = gRF lk sp cd) (hlk : lk = 30 ∨ lk = 67) (hsp : sp = 30 ∨ sp = 67) (hb : b = 30 ∨ b = 67) (vc : gC l G d MX5_move [.ref 1] h (rV fun h1 => h1.2.2 = (h).2.2 ∧ gC l G d MX5_takeWord [.ref 1, .int 4] h1 (rI fun v2 h2 => h2.2.2 = (h1).2.2 ∧ ((¬ v2 = 0 → gC l G d MX5_takeNumber [.ref 1, .int 0, .int 99] h2 (rI fun v3 h3 => h3.2.2 = (h2).2.2 ∧ ((v3 = (-1) → Q (some (.int 0)) h3) ∧ (¬ v3 = (-1) → (((h.1 b 15) < 0 → Q (some (.int 0)) h3) ∧ (¬ (h.1 b 15) < 0 → (((h.1 b 15) < 10 → gC l G d MX7_find [.ref (b + 9), .int (h.1 b 15), .int v3] h3 (rI fun v4 h4 => h4.2.2 = (h3).2.2 ∧ ((v4 = (-1) → (vp_in ((h.1 b 15)) 10 ∧ (vp_in ((h.1 b 15)) 10 ∧ Q (some (.int 1)) (sI (sI (sI h4 (b + 9) ((h.1 b 15) : Int32).toNatClampNeg v3) (b + 10) ((h.1 b 15) : Int32).toNatClampNeg ((h.1 1 6) - 8)) b 15 ((h4.1 b 15) + 1))))) ∧ (¬ v4 = (-1) → gC l G d MX5_fail [.ref 1, .int 2, .int (h2.1 1 4)] h4 (rI fun v5 h5 => h5.2.2 = (h4).2.2 ∧ ((v5 = 0 ∨ v5 = 1) ∧ Q (some (.int v5)) h5)))))) ∧ (¬ (h.1 b 15) < 10 → Q (some (.int 0)) h3)))))))) ∧ (v2 = 0 → Q (some (.int 0)) h2))))) : gg p l e s m args below meth c G (d + 1) MX7_readSky Q 0 [some (.ref 5), some (.ref b), none, none, none, none] [] h := by
  refine go_aload_n (x := b) dX7_readSky_0 rfl ?_
  refine go_getI' (v := (h.1 b 15)) dX7_readSky_1 f7_104 (slx hb) (fun _ _ => rfl) rfl ?_
  refine go_istore_n dX7_readSky_4 (Nat.le_of_ble_eq_true rfl) ?_
  show gg p l e s m args below meth c G (d + 1) MX7_readSky Q 5 [some (.ref 5), some (.ref b), some (.int (h.1 b 15)), none, none, none] [] h
  refine go_aload_n (x := 5) dX7_readSky_5 rfl ?_
  refine go_getR (x := 1) dX7_readSky_6 f7_9 sh5 (fun _ _ => rfl) (rf5_0 hR) ?_
  refine go_getI' (v := (h.1 1 6)) dX7_readSky_9 f7_53 sh1 (fun _ _ => rfl) rfl ?_
  refine go_bipush (v := 8) dX7_readSky_12 rfl ?_
  refine go_isub dX7_readSky_14 ?_
  refine go_istore_n dX7_readSky_15 (Nat.le_of_ble_eq_true rfl) ?_
  show gg p l e s m args below meth c G (d + 1) MX7_readSky Q 16 [some (.ref 5), some (.ref b), some (.int (h.1 b 15)), some (.int ((h.1 1 6) - 8)), none, none] [] h
  refine go_aload_n (x := 5) dX7_readSky_16 rfl ?_
  refine go_getR (x := 1) dX7_readSky_17 f7_9 sh5 (fun _ _ => rfl) (rf5_0 hR) ?_
  refine gvV0 MX5_move dX7_readSky_20 lX7_112 kX5_move vX5_move sh1 (by decide) rfl (Nat.le_of_ble_eq_true rfl) vc ?_
  intro h1 vc
  obtain ⟨hR1, vc⟩ := vc
  replace hR := hR1.trans hR
  refine go_aload_n (x := 5) dX7_readSky_23 rfl ?_
  refine go_getR (x := 1) dX7_readSky_24 f7_9 sh5 (fun _ _ => rfl) (rf5_0 hR) ?_
  refine go_iconst (v := 4) dX7_readSky_27 rfl ?_
  refine gvI1 MX5_takeWord dX7_readSky_28 lX7_155 kX5_takeWord vX5_takeWord sh1 (by decide) rfl (Nat.le_of_ble_eq_true rfl) vc ?_
  intro v2 h2 vc
  obtain ⟨hR2, vc⟩ := vc
  replace hR := hR2.trans hR
  refine go_if_ne 36 dX7_readSky_31 rfl (fun q => ?_) (fun q => ?_)
  · replace vc := vc.1 q
    refine go_aload_n (x := 5) dX7_readSky_36 rfl ?_
    refine go_getR (x := 1) dX7_readSky_37 f7_9 sh5 (fun _ _ => rfl) (rf5_0 hR) ?_
    refine go_getI' (v := (h2.1 1 4)) dX7_readSky_40 f7_125 sh1 (fun _ _ => rfl) rfl ?_
    refine go_istore dX7_readSky_43 (Nat.le_of_ble_eq_true rfl) ?_
    show gg p l e s m args below meth c G (d + 1) MX7_readSky Q 45 [some (.ref 5), some (.ref b), some (.int (h.1 b 15)), some (.int ((h.1 1 6) - 8)), some (.int (h2.1 1 4)), none] [] h2
    refine go_aload_n (x := 5) dX7_readSky_45 rfl ?_
    refine go_getR (x := 1) dX7_readSky_46 f7_9 sh5 (fun _ _ => rfl) (rf5_0 hR) ?_
    refine go_iconst (v := 0) dX7_readSky_49 rfl ?_
    refine go_bipush (v := 99) dX7_readSky_50 rfl ?_
    refine gvI2 MX5_takeNumber dX7_readSky_52 lX7_115 kX5_takeNumber vX5_takeNumber sh1 (by decide) rfl (Nat.le_of_ble_eq_true rfl) vc ?_
    intro v3 h3 vc
    obtain ⟨hR3, vc⟩ := vc
    replace hR := hR3.trans hR
    refine go_istore dX7_readSky_55 (Nat.le_of_ble_eq_true rfl) ?_
    show gg p l e s m args below meth c G (d + 1) MX7_readSky Q 57 [some (.ref 5), some (.ref b), some (.int (h.1 b 15)), some (.int ((h.1 1 6) - 8)), some (.int (h2.1 1 4)), some (.int v3)] [] h3
    refine go_iload (x := v3) dX7_readSky_57 rfl ?_
    refine go_iconst (v := (-1)) dX7_readSky_59 rfl ?_
    refine go_icmp_eq 73 dX7_readSky_60 rfl (fun q => ?_) (fun q => ?_)
    · replace vc := vc.1 q
      refine go_iconst (v := 0) dX7_readSky_73 rfl ?_
      exact go_zret dX7_readSky_74 rfl (by decide) vc rfl (Nat.le_refl _) (Nat.le_refl _)
    · replace vc := vc.2 q
      refine go_iload_n (x := (h.1 b 15)) dX7_readSky_63 rfl ?_
      refine go_if_lt 73 dX7_readSky_64 rfl (fun q => ?_) (fun q => ?_)
      · replace vc := vc.1 q
        refine go_iconst (v := 0) dX7_readSky_73 rfl ?_
        exact go_zret dX7_readSky_74 rfl (by decide) vc rfl (Nat.le_refl _) (Nat.le_refl _)
      · replace vc := vc.2 q
        refine go_iload_n (x := (h.1 b 15)) dX7_readSky_67 rfl ?_
        refine go_bipush (v := 10) dX7_readSky_68 rfl ?_
        refine go_icmp_lt 75 dX7_readSky_70 rfl (fun q => ?_) (fun q => ?_)
        · replace vc := vc.1 q
          refine go_aload_n (x := b) dX7_readSky_75 rfl ?_
          refine go_getR (x := (b + 9)) dX7_readSky_76 f7_207 (slx hb) (fun _ _ => rfl) (rl_s hR hb (by decide)) ?_
          refine go_iload_n (x := (h.1 b 15)) dX7_readSky_79 rfl ?_
          refine go_iload (x := v3) dX7_readSky_80 rfl ?_
          refine gsI3 MX7_find dX7_readSky_82 lX7_190 kX7_find sX7_find (Nat.le_of_ble_eq_true rfl) vc ?_
          intro v4 h4 vc
          obtain ⟨hR4, vc⟩ := vc
          replace hR := hR4.trans hR
          refine go_iconst (v := (-1)) dX7_readSky_85 rfl ?_
          refine go_icmp_eq 100 dX7_readSky_86 rfl (fun q => ?_) (fun q => ?_)
          · replace vc := vc.1 q
            refine go_aload_n (x := b) dX7_readSky_100 rfl ?_
            refine go_getR (x := (b + 9)) dX7_readSky_101 f7_207 (slx hb) (fun _ _ => rfl) (rl_s hR hb (by decide)) ?_
            refine go_iload_n (x := (h.1 b 15)) dX7_readSky_104 rfl ?_
            refine go_iload (x := v3) dX7_readSky_105 rfl ?_
            refine go_iast dX7_readSky_107 (sl9 hb) vc.1 ?_
            have vc := vc.2
            show gg p l e s m args below meth c G (d + 1) MX7_readSky Q 108 [some (.ref 5), some (.ref b), some (.int (h.1 b 15)), some (.int ((h.1 1 6) - 8)), some (.int (h2.1 1 4)), some (.int v3)] [] (sI h4 (b + 9) ((h.1 b 15) : Int32).toNatClampNeg v3)
            refine go_aload_n (x := b) dX7_readSky_108 rfl ?_
            refine go_getR (x := (b + 10)) dX7_readSky_109 f7_210 (slx hb) (fun _ _ => rfl) (rl_s hR hb (by decide)) ?_
            refine go_iload_n (x := (h.1 b 15)) dX7_readSky_112 rfl ?_
            refine go_iload_n (x := ((h.1 1 6) - 8)) dX7_readSky_113 rfl ?_
            refine go_iast dX7_readSky_114 (sl10 hb) vc.1 ?_
            have vc := vc.2
            show gg p l e s m args below meth c G (d + 1) MX7_readSky Q 115 [some (.ref 5), some (.ref b), some (.int (h.1 b 15)), some (.int ((h.1 1 6) - 8)), some (.int (h2.1 1 4)), some (.int v3)] [] (sI (sI h4 (b + 9) ((h.1 b 15) : Int32).toNatClampNeg v3) (b + 10) ((h.1 b 15) : Int32).toNatClampNeg ((h.1 1 6) - 8))
            refine go_aload_n (x := b) dX7_readSky_115 rfl ?_
            refine go_dup dX7_readSky_116 rfl ?_
            refine go_getI' (v := (h4.1 b 15)) dX7_readSky_117 f7_104 (slx hb) (fun _ _ => rfl) (by first | rfl | simp [sI, sL]) ?_
            refine go_iconst (v := 1) dX7_readSky_120 rfl ?_
            refine go_iadd dX7_readSky_121 ?_
            refine go_putI dX7_readSky_122 f7_104 (slx hb) rfl rfl ?_
            refine go_iconst (v := 1) dX7_readSky_125 rfl ?_
            exact go_zret dX7_readSky_126 rfl (by decide) vc rfl (Nat.le_refl _) (Nat.le_refl _)
          · replace vc := vc.2 q
            refine go_aload_n (x := 5) dX7_readSky_89 rfl ?_
            refine go_getR (x := 1) dX7_readSky_90 f7_9 sh5 (fun _ _ => rfl) (rf5_0 hR) ?_
            refine go_iconst (v := 2) dX7_readSky_93 rfl ?_
            refine go_iload (x := (h2.1 1 4)) dX7_readSky_94 rfl ?_
            refine gvI2 MX5_fail dX7_readSky_96 lX7_173 kX5_fail vX5_fail sh1 (by decide) rfl (Nat.le_of_ble_eq_true rfl) vc ?_
            intro v5 h5 vc
            obtain ⟨hR5, vc⟩ := vc
            replace hR := hR5.trans hR
            exact go_zret dX7_readSky_99 rfl vc.1 vc.2 rfl (Nat.le_refl _) (Nat.le_refl _)
        · replace vc := vc.2 q
          refine go_iconst (v := 0) dX7_readSky_73 rfl ?_
          exact go_zret dX7_readSky_74 rfl (by decide) vc rfl (Nat.le_refl _) (Nat.le_refl _)
  · replace vc := vc.2 q
    refine go_iconst (v := 0) dX7_readSky_34 rfl ?_
    exact go_zret dX7_readSky_35 rfl (by decide) vc rfl (Nat.le_refl _) (Nat.le_refl _)
set_option maxRecDepth 20000 in
theorem wX7_readCoax_0 {p : Program} {l : Launch} {e : Env} {s : State} {m : MethodId} {args : Array Value} {below : List Frame} {meth : Method} {c : Code} {G : gG} {d : Nat} {Q : Option Value → gH → Prop} {h : gH} {lk sp : Nat} {cd : Option Nat} {b : Nat} (hR : h.2.2 = gRF lk sp cd) (hlk : lk = 30 ∨ lk = 67) (hsp : sp = 30 ∨ sp = 67) (hb : b = 30 ∨ b = 67) (vc : gC l G d MX5_move [.ref 1] h (rV fun h1 => h1.2.2 = (h).2.2 ∧ gC l G d MX5_takeNumber [.ref 1, .int 1, .int 99] h1 (rI fun v2 h2 => h2.2.2 = (h1).2.2 ∧ ((¬ v2 = (-1) → Q (some (.int 1)) (sI h2 b 16 v2)) ∧ (v2 = (-1) → Q (some (.int 0)) h2))))) : gg p l e s m args below meth c G (d + 1) MX7_readCoax Q 0 [some (.ref 5), some (.ref b), none] [] h := by
  refine go_aload_n (x := 5) dX7_readCoax_0 rfl ?_
  refine go_getR (x := 1) dX7_readCoax_1 f7_9 sh5 (fun _ _ => rfl) (rf5_0 hR) ?_
  refine gvV0 MX5_move dX7_readCoax_4 lX7_112 kX5_move vX5_move sh1 (by decide) rfl (Nat.le_of_ble_eq_true rfl) vc ?_
  intro h1 vc
  obtain ⟨hR1, vc⟩ := vc
  replace hR := hR1.trans hR
  refine go_aload_n (x := 5) dX7_readCoax_7 rfl ?_
  refine go_getR (x := 1) dX7_readCoax_8 f7_9 sh5 (fun _ _ => rfl) (rf5_0 hR) ?_
  refine go_iconst (v := 1) dX7_readCoax_11 rfl ?_
  refine go_bipush (v := 99) dX7_readCoax_12 rfl ?_
  refine gvI2 MX5_takeNumber dX7_readCoax_14 lX7_115 kX5_takeNumber vX5_takeNumber sh1 (by decide) rfl (Nat.le_of_ble_eq_true rfl) vc ?_
  intro v2 h2 vc
  obtain ⟨hR2, vc⟩ := vc
  replace hR := hR2.trans hR
  refine go_istore_n dX7_readCoax_17 (Nat.le_of_ble_eq_true rfl) ?_
  show gg p l e s m args below meth c G (d + 1) MX7_readCoax Q 18 [some (.ref 5), some (.ref b), some (.int v2)] [] h2
  refine go_iload_n (x := v2) dX7_readCoax_18 rfl ?_
  refine go_iconst (v := (-1)) dX7_readCoax_19 rfl ?_
  refine go_icmp_ne 25 dX7_readCoax_20 rfl (fun q => ?_) (fun q => ?_)
  · replace vc := vc.1 q
    refine go_aload_n (x := b) dX7_readCoax_25 rfl ?_
    refine go_iload_n (x := v2) dX7_readCoax_26 rfl ?_
    refine go_putI dX7_readCoax_27 f7_213 (slx hb) rfl rfl ?_
    refine go_iconst (v := 1) dX7_readCoax_30 rfl ?_
    exact go_zret dX7_readCoax_31 rfl (by decide) vc rfl (Nat.le_refl _) (Nat.le_refl _)
  · replace vc := vc.2 q
    refine go_iconst (v := 0) dX7_readCoax_23 rfl ?_
    exact go_zret dX7_readCoax_24 rfl (by decide) vc rfl (Nat.le_refl _) (Nat.le_refl _)
set_option maxRecDepth 20000 in
theorem wX2_begin_0 {p : Program} {l : Launch} {e : Env} {s : State} {m : MethodId} {args : Array Value} {below : List Frame} {meth : Method} {c : Code} {G : gG} {d : Nat} {Q : Option Value → gH → Prop} {h : gH} {lk sp : Nat} {cd : Option Nat} {b : Nat} (hR : h.2.2 = gRF lk sp cd) (hlk : lk = 30 ∨ lk = 67) (hsp : sp = 30 ∨ sp = 67) (hb : b = 30 ∨ b = 67) (vc : gC l G d MX2_forget [.ref 6] h (rV fun h1 => h1.2.2 = (h).2.2 ∧ gg p l e s m args below meth c G (d + 1) MX2_begin Q 33 [some (.ref 6), some (.ref b), some (.int 0)] [] (sI (sI (sI h1 7 0 0) 7 1 0) 6 3 (if (h1.1 b 13) < 6 then (h1.1 b 13) else 6)))) : gg p l e s m args below meth c G (d + 1) MX2_begin Q 0 [some (.ref 6), some (.ref b), none] [] h := by
  refine go_aload_n (x := 6) dX2_begin_0 rfl ?_
  refine gvV0 MX2_forget dX2_begin_1 lX2_30 kX2_forget vX2_forget sh6 (by decide) rfl (Nat.le_of_ble_eq_true rfl) vc ?_
  intro h1 vc
  obtain ⟨hR1, vc⟩ := vc
  replace hR := hR1.trans hR
  refine go_aload_n (x := 6) dX2_begin_4 rfl ?_
  refine go_getR (x := 7) dX2_begin_5 f2_11 sh6 (fun _ _ => rfl) (rf6_0 hR) ?_
  refine go_iconst (v := 0) dX2_begin_8 rfl ?_
  refine go_iconst (v := 0) dX2_begin_9 rfl ?_
  refine go_iast dX2_begin_10 sh7 (by unfold vp_in; decide) ?_
  refine go_aload_n (x := 6) dX2_begin_11 rfl ?_
  refine go_getR (x := 7) dX2_begin_12 f2_11 sh6 (fun _ _ => rfl) (rf6_0 hR) ?_
  refine go_iconst (v := 1) dX2_begin_15 rfl ?_
  refine go_iconst (v := 0) dX2_begin_16 rfl ?_
  refine go_iast dX2_begin_17 sh7 (by unfold vp_in; decide) ?_
  refine go_aload_n (x := 6) dX2_begin_18 rfl ?_
  refine go_bipush (v := 6) dX2_begin_19 rfl ?_
  refine go_aload_n (x := b) dX2_begin_21 rfl ?_
  refine go_getI' (v := (h1.1 b 13)) dX2_begin_22 f2_33 (slx hb) (fun _ _ => rfl) (by first | rfl | (rcases hb with rfl | rfl <;> first | rfl | simp [sI, sL])) ?_
  refine go_min dX2_begin_25 lX2_36 (Nat.le_of_ble_eq_true rfl) ?_
  refine go_putI dX2_begin_28 f2_24 sh6 rfl rfl ?_
  refine go_iconst (v := 0) dX2_begin_31 rfl ?_
  refine go_istore_n dX2_begin_32 (Nat.le_of_ble_eq_true rfl) ?_
  show gg p l e s m args below meth c G (d + 1) MX2_begin Q 33 [some (.ref 6), some (.ref b), some (.int 0)] [] (sI (sI (sI h1 7 0 0) 7 1 0) 6 3 (if (h1.1 b 13) < 6 then (h1.1 b 13) else 6))
  exact vc
set_option maxRecDepth 20000 in
theorem wX2_begin_33 {p : Program} {l : Launch} {e : Env} {s : State} {m : MethodId} {args : Array Value} {below : List Frame} {meth : Method} {c : Code} {G : gG} {d : Nat} {Q : Option Value → gH → Prop} {h : gH} {lk sp : Nat} {cd : Option Nat} {b : Nat} {x2 : Int32} (hR : h.2.2 = gRF lk sp cd) (hlk : lk = 30 ∨ lk = 67) (hsp : sp = 30 ∨ sp = 67) (hb : b = 30 ∨ b = 67) (vc : (((h.1 6 3) ≤ x2 → Q none h) ∧ (¬ (h.1 6 3) ≤ x2 → (vp_in x2 6 ∧ (vp_in ((3 + x2)) 67 ∧ (vp_in x2 6 ∧ (vp_in ((9 + x2)) 67 ∧ (vp_in ((15 + x2)) 67 ∧ (vp_in ((21 + x2)) 67 ∧ gg p l e s m args below meth c G (d + 1) MX2_begin Q 33 [some (.ref 6), some (.ref b), some (.int (x2 + 1))] [] (sI (sI (sI (sI h 7 ((3 + x2) : Int32).toNatClampNeg (h.1 (b + 4) x2.toNatClampNeg)) 7 ((9 + x2) : Int32).toNatClampNeg (h.1 (b + 5) x2.toNatClampNeg)) 7 ((15 + x2) : Int32).toNatClampNeg 0) 7 ((21 + x2) : Int32).toNatClampNeg (-1))))))))))) : gg p l e s m args below meth c G (d + 1) MX2_begin Q 33 [some (.ref 6), some (.ref b), some (.int x2)] [] h := by
  refine go_iload_n (x := x2) dX2_begin_33 rfl ?_
  refine go_aload_n (x := 6) dX2_begin_34 rfl ?_
  refine go_getI' (v := (h.1 6 3)) dX2_begin_35 f2_24 sh6 (fun _ _ => rfl) rfl ?_
  refine go_icmp_ge 96 dX2_begin_38 rfl (fun q => ?_) (fun q => ?_)
  · replace vc := vc.1 q
    exact go_vret dX2_begin_96 rfl vc rfl (Nat.le_refl _) (Nat.le_refl _)
  · replace vc := vc.2 q
    refine go_aload_n (x := 6) dX2_begin_41 rfl ?_
    refine go_getR (x := 7) dX2_begin_42 f2_11 sh6 (fun _ _ => rfl) (rf6_0 hR) ?_
    refine go_iconst (v := 3) dX2_begin_45 rfl ?_
    refine go_iload_n (x := x2) dX2_begin_46 rfl ?_
    refine go_iadd dX2_begin_47 ?_
    refine go_aload_n (x := b) dX2_begin_48 rfl ?_
    refine go_getR (x := (b + 4)) dX2_begin_49 f2_42 (slx hb) (fun _ _ => rfl) (rl_s hR hb (by decide)) ?_
    refine go_iload_n (x := x2) dX2_begin_52 rfl ?_
    refine go_iald' (v := (h.1 (b + 4) x2.toNatClampNeg)) dX2_begin_53 (sl4 hb) vc.1 rfl ?_
    have vc := vc.2
    refine go_iast dX2_begin_54 sh7 vc.1 ?_
    have vc := vc.2
    show gg p l e s m args below meth c G (d + 1) MX2_begin Q 55 [some (.ref 6), some (.ref b), some (.int x2)] [] (sI h 7 ((3 + x2) : Int32).toNatClampNeg (h.1 (b + 4) x2.toNatClampNeg))
    refine go_aload_n (x := 6) dX2_begin_55 rfl ?_
    refine go_getR (x := 7) dX2_begin_56 f2_11 sh6 (fun _ _ => rfl) (rf6_0 hR) ?_
    refine go_bipush (v := 9) dX2_begin_59 rfl ?_
    refine go_iload_n (x := x2) dX2_begin_61 rfl ?_
    refine go_iadd dX2_begin_62 ?_
    refine go_aload_n (x := b) dX2_begin_63 rfl ?_
    refine go_getR (x := (b + 5)) dX2_begin_64 f2_45 (slx hb) (fun _ _ => rfl) (rl_s hR hb (by decide)) ?_
    refine go_iload_n (x := x2) dX2_begin_67 rfl ?_
    refine go_iald' (v := (h.1 (b + 5) x2.toNatClampNeg)) dX2_begin_68 (sl5 hb) vc.1 (by first | rfl | (rcases hb with rfl | rfl <;> first | rfl | simp [sI, sL])) ?_
    have vc := vc.2
    refine go_iast dX2_begin_69 sh7 vc.1 ?_
    have vc := vc.2
    show gg p l e s m args below meth c G (d + 1) MX2_begin Q 70 [some (.ref 6), some (.ref b), some (.int x2)] [] (sI (sI h 7 ((3 + x2) : Int32).toNatClampNeg (h.1 (b + 4) x2.toNatClampNeg)) 7 ((9 + x2) : Int32).toNatClampNeg (h.1 (b + 5) x2.toNatClampNeg))
    refine go_aload_n (x := 6) dX2_begin_70 rfl ?_
    refine go_getR (x := 7) dX2_begin_71 f2_11 sh6 (fun _ _ => rfl) (rf6_0 hR) ?_
    refine go_bipush (v := 15) dX2_begin_74 rfl ?_
    refine go_iload_n (x := x2) dX2_begin_76 rfl ?_
    refine go_iadd dX2_begin_77 ?_
    refine go_iconst (v := 0) dX2_begin_78 rfl ?_
    refine go_iast dX2_begin_79 sh7 vc.1 ?_
    have vc := vc.2
    show gg p l e s m args below meth c G (d + 1) MX2_begin Q 80 [some (.ref 6), some (.ref b), some (.int x2)] [] (sI (sI (sI h 7 ((3 + x2) : Int32).toNatClampNeg (h.1 (b + 4) x2.toNatClampNeg)) 7 ((9 + x2) : Int32).toNatClampNeg (h.1 (b + 5) x2.toNatClampNeg)) 7 ((15 + x2) : Int32).toNatClampNeg 0)
    refine go_aload_n (x := 6) dX2_begin_80 rfl ?_
    refine go_getR (x := 7) dX2_begin_81 f2_11 sh6 (fun _ _ => rfl) (rf6_0 hR) ?_
    refine go_bipush (v := 21) dX2_begin_84 rfl ?_
    refine go_iload_n (x := x2) dX2_begin_86 rfl ?_
    refine go_iadd dX2_begin_87 ?_
    refine go_iconst (v := (-1)) dX2_begin_88 rfl ?_
    refine go_iast dX2_begin_89 sh7 vc.1 ?_
    have vc := vc.2
    show gg p l e s m args below meth c G (d + 1) MX2_begin Q 90 [some (.ref 6), some (.ref b), some (.int x2)] [] (sI (sI (sI (sI h 7 ((3 + x2) : Int32).toNatClampNeg (h.1 (b + 4) x2.toNatClampNeg)) 7 ((9 + x2) : Int32).toNatClampNeg (h.1 (b + 5) x2.toNatClampNeg)) 7 ((15 + x2) : Int32).toNatClampNeg 0) 7 ((21 + x2) : Int32).toNatClampNeg (-1))
    refine go_iinc (x := x2) dX2_begin_90 rfl ?_
    show gg p l e s m args below meth c G (d + 1) MX2_begin Q 93 [some (.ref 6), some (.ref b), some (.int (x2 + 1))] [] (sI (sI (sI (sI h 7 ((3 + x2) : Int32).toNatClampNeg (h.1 (b + 4) x2.toNatClampNeg)) 7 ((9 + x2) : Int32).toNatClampNeg (h.1 (b + 5) x2.toNatClampNeg)) 7 ((15 + x2) : Int32).toNatClampNeg 0) 7 ((21 + x2) : Int32).toNatClampNeg (-1))
    refine go_goto 33 dX2_begin_93 rfl ?_
    exact vc
set_option maxRecDepth 20000 in
theorem wX2_forget_0 {p : Program} {l : Launch} {e : Env} {s : State} {m : MethodId} {args : Array Value} {below : List Frame} {meth : Method} {c : Code} {G : gG} {d : Nat} {Q : Option Value → gH → Prop} {h : gH} {lk sp : Nat} {cd : Option Nat}  (hR : h.2.2 = gRF lk sp cd) (hlk : lk = 30 ∨ lk = 67) (hsp : sp = 30 ∨ sp = 67)  (vc : Q none (sI (sI h 7 2 0) 6 4 0)) : gg p l e s m args below meth c G d MX2_forget Q 0 [some (.ref 6)] [] h := by
  refine go_aload_n (x := 6) dX2_forget_0 rfl ?_
  refine go_getR (x := 7) dX2_forget_1 f2_11 sh6 (fun _ _ => rfl) (rf6_0 hR) ?_
  refine go_iconst (v := 2) dX2_forget_4 rfl ?_
  refine go_iconst (v := 0) dX2_forget_5 rfl ?_
  refine go_iast dX2_forget_6 sh7 (by unfold vp_in; decide) ?_
  refine go_aload_n (x := 6) dX2_forget_7 rfl ?_
  refine go_iconst (v := 0) dX2_forget_8 rfl ?_
  refine go_putI dX2_forget_9 f2_27 sh6 rfl rfl ?_
  exact go_vret dX2_forget_12 rfl vc rfl (Nat.le_refl _) (Nat.le_refl _)
set_option maxRecDepth 20000 in
theorem wX2_remember_0 {p : Program} {l : Launch} {e : Env} {s : State} {m : MethodId} {args : Array Value} {below : List Frame} {meth : Method} {c : Code} {G : gG} {d : Nat} {Q : Option Value → gH → Prop} {h : gH} {lk sp : Nat} {cd : Option Nat}  (hR : h.2.2 = gRF lk sp cd) (hlk : lk = 30 ∨ lk = 67) (hsp : sp = 30 ∨ sp = 67)  (vc : (((((h.1 6 2) + 1) - ((h.1 6 2) + 1) / 20 * 20) < 0 → Q none (sI (sI h 6 2 (((h.1 6 2) + 1) - ((h.1 6 2) + 1) / 20 * 20)) 6 4 (if ((h.1 6 4) + 1) < 20 then ((h.1 6 4) + 1) else 20))) ∧ (¬ (((h.1 6 2) + 1) - ((h.1 6 2) + 1) / 20 * 20) < 0 → (vp_in ((((h.1 6 2) + 1) - ((h.1 6 2) + 1) / 20 * 20)) 20 ∧ Q none (sI (sA (sI h 6 2 (((h.1 6 2) + 1) - ((h.1 6 2) + 1) / 20 * 20)) (9 + ((((h.1 6 2) + 1) - ((h.1 6 2) + 1) / 20 * 20) : Int32).toNatClampNeg) (va_cpy ((sI h 6 2 (((h.1 6 2) + 1) - ((h.1 6 2) + 1) / 20 * 20)).1 7) ((sI h 6 2 (((h.1 6 2) + 1) - ((h.1 6 2) + 1) / 20 * 20)).1 (9 + ((((h.1 6 2) + 1) - ((h.1 6 2) + 1) / 20 * 20) : Int32).toNatClampNeg)) 0 0 67)) 6 4 (if ((h.1 6 4) + 1) < 20 then ((h.1 6 4) + 1) else 20)))))) : gg p l e s m args below meth c G (d + 1) MX2_remember Q 0 [some (.ref 6)] [] h := by
  refine go_aload_n (x := 6) dX2_remember_0 rfl ?_
  refine go_aload_n (x := 6) dX2_remember_1 rfl ?_
  refine go_getI' (v := (h.1 6 2)) dX2_remember_2 f2_20 sh6 (fun _ _ => rfl) rfl ?_
  refine go_iconst (v := 1) dX2_remember_5 rfl ?_
  refine go_iadd dX2_remember_6 ?_
  refine go_bipush (v := 20) dX2_remember_7 rfl ?_
  refine go_irem dX2_remember_9 (by decide) ?_
  refine go_putI dX2_remember_10 f2_20 sh6 rfl rfl ?_
  refine go_aload_n (x := 6) dX2_remember_13 rfl ?_
  refine go_getI' (v := (((h.1 6 2) + 1) - ((h.1 6 2) + 1) / 20 * 20)) dX2_remember_14 f2_20 sh6 (fun _ _ => rfl) rfl ?_
  refine go_if_lt 40 dX2_remember_17 rfl (fun q => ?_) (fun q => ?_)
  · replace vc := vc.1 q
    refine go_aload_n (x := 6) dX2_remember_40 rfl ?_
    refine go_bipush (v := 20) dX2_remember_41 rfl ?_
    refine go_aload_n (x := 6) dX2_remember_43 rfl ?_
    refine go_getI' (v := (h.1 6 4)) dX2_remember_44 f2_27 sh6 (fun _ _ => rfl) rfl ?_
    refine go_iconst (v := 1) dX2_remember_47 rfl ?_
    refine go_iadd dX2_remember_48 ?_
    refine go_min dX2_remember_49 lX2_36 (Nat.le_of_ble_eq_true rfl) ?_
    refine go_putI dX2_remember_52 f2_27 sh6 rfl rfl ?_
    exact go_vret dX2_remember_55 rfl vc rfl (Nat.le_refl _) (Nat.le_refl _)
  · replace vc := vc.2 q
    refine go_aload_n (x := 6) dX2_remember_20 rfl ?_
    refine go_getR (x := 7) dX2_remember_21 f2_11 sh6 (fun _ _ => rfl) (rf6_0 hR) ?_
    refine go_iconst (v := 0) dX2_remember_24 rfl ?_
    refine go_aload_n (x := 6) dX2_remember_25 rfl ?_
    refine go_getR (x := 8) dX2_remember_26 f2_17 sh6 (fun _ _ => rfl) (rf6_1 hR) ?_
    refine go_aload_n (x := 6) dX2_remember_29 rfl ?_
    refine go_getI' (v := (((h.1 6 2) + 1) - ((h.1 6 2) + 1) / 20 * 20)) dX2_remember_30 f2_20 sh6 (fun _ _ => rfl) rfl ?_
    refine go_aald (x := (9 + ((((h.1 6 2) + 1) - ((h.1 6 2) + 1) / 20 * 20) : Int32).toNatClampNeg)) dX2_remember_33 sh8 vc.1 (rf_past hR vc.1) ?_
    have hz := vc.1
    have vc := vc.2
    refine go_iconst (v := 0) dX2_remember_34 rfl ?_
    refine go_bipush (v := 67) dX2_remember_35 rfl ?_
    refine go_copy (k0 := 7) (k1 := (9 + ((((h.1 6 2) + 1) - ((h.1 6 2) + 1) / 20 * 20) : Int32).toNatClampNeg)) dX2_remember_37 lYX2_48 sh7 (sh_past hz) (by decide) (by decide) (by decide) (by decide) (by decide) (Nat.le_of_ble_eq_true rfl) ?_
    show gg p l e s m args below meth c G (d + 1) MX2_remember Q 40 [some (.ref 6)] [] (sA (sI h 6 2 (((h.1 6 2) + 1) - ((h.1 6 2) + 1) / 20 * 20)) (9 + ((((h.1 6 2) + 1) - ((h.1 6 2) + 1) / 20 * 20) : Int32).toNatClampNeg) (va_cpy ((sI h 6 2 (((h.1 6 2) + 1) - ((h.1 6 2) + 1) / 20 * 20)).1 7) ((sI h 6 2 (((h.1 6 2) + 1) - ((h.1 6 2) + 1) / 20 * 20)).1 (9 + ((((h.1 6 2) + 1) - ((h.1 6 2) + 1) / 20 * 20) : Int32).toNatClampNeg)) 0 0 67))
    refine go_aload_n (x := 6) dX2_remember_40 rfl ?_
    refine go_bipush (v := 20) dX2_remember_41 rfl ?_
    refine go_aload_n (x := 6) dX2_remember_43 rfl ?_
    refine go_getI' (v := (h.1 6 4)) dX2_remember_44 f2_27 sh6 (fun _ _ => rfl) ((congrFun (sA_o _ _ _ 6 (by omega)).1 4).trans rfl) ?_
    refine go_iconst (v := 1) dX2_remember_47 rfl ?_
    refine go_iadd dX2_remember_48 ?_
    refine go_min dX2_remember_49 lX2_36 (Nat.le_of_ble_eq_true rfl) ?_
    refine go_putI dX2_remember_52 f2_27 sh6 rfl rfl ?_
    exact go_vret dX2_remember_55 rfl vc rfl (Nat.le_refl _) (Nat.le_refl _)
set_option maxRecDepth 20000 in
theorem wX2_goBack_0 {p : Program} {l : Launch} {e : Env} {s : State} {m : MethodId} {args : Array Value} {below : List Frame} {meth : Method} {c : Code} {G : gG} {d : Nat} {Q : Option Value → gH → Prop} {h : gH} {lk sp : Nat} {cd : Option Nat}  (hR : h.2.2 = gRF lk sp cd) (hlk : lk = 30 ∨ lk = 67) (hsp : sp = 30 ∨ sp = 67)  (vc : (((h.1 6 4) < 1 → Q (some (.int 0)) h) ∧ (¬ (h.1 6 4) < 1 → (((h.1 6 2) < 0 → Q (some (.int 0)) h) ∧ (¬ (h.1 6 2) < 0 → (((h.1 6 2) < 20 → (vp_in ((h.1 6 2)) 20 ∧ Q (some (.int 1)) (sI (sI (sA h 7 (va_cpy (h.1 (9 + ((h.1 6 2) : Int32).toNatClampNeg)) (h.1 7) 0 0 67)) 6 2 ((((h.1 6 2) + 20) - 1) - (((h.1 6 2) + 20) - 1) / 20 * 20)) 6 4 ((h.1 6 4) - 1)))) ∧ (¬ (h.1 6 2) < 20 → Q (some (.int 0)) h))))))) : gg p l e s m args below meth c G (d + 1) MX2_goBack Q 0 [some (.ref 6)] [] h := by
  refine go_aload_n (x := 6) dX2_goBack_0 rfl ?_
  refine go_getI' (v := (h.1 6 4)) dX2_goBack_1 f2_27 sh6 (fun _ _ => rfl) rfl ?_
  refine go_iconst (v := 1) dX2_goBack_4 rfl ?_
  refine go_icmp_lt 24 dX2_goBack_5 rfl (fun q => ?_) (fun q => ?_)
  · replace vc := vc.1 q
    refine go_iconst (v := 0) dX2_goBack_24 rfl ?_
    exact go_zret dX2_goBack_25 rfl (by decide) vc rfl (Nat.le_refl _) (Nat.le_refl _)
  · replace vc := vc.2 q
    refine go_aload_n (x := 6) dX2_goBack_8 rfl ?_
    refine go_getI' (v := (h.1 6 2)) dX2_goBack_9 f2_20 sh6 (fun _ _ => rfl) rfl ?_
    refine go_if_lt 24 dX2_goBack_12 rfl (fun q => ?_) (fun q => ?_)
    · replace vc := vc.1 q
      refine go_iconst (v := 0) dX2_goBack_24 rfl ?_
      exact go_zret dX2_goBack_25 rfl (by decide) vc rfl (Nat.le_refl _) (Nat.le_refl _)
    · replace vc := vc.2 q
      refine go_aload_n (x := 6) dX2_goBack_15 rfl ?_
      refine go_getI' (v := (h.1 6 2)) dX2_goBack_16 f2_20 sh6 (fun _ _ => rfl) rfl ?_
      refine go_bipush (v := 20) dX2_goBack_19 rfl ?_
      refine go_icmp_lt 26 dX2_goBack_21 rfl (fun q => ?_) (fun q => ?_)
      · replace vc := vc.1 q
        refine go_aload_n (x := 6) dX2_goBack_26 rfl ?_
        refine go_getR (x := 8) dX2_goBack_27 f2_17 sh6 (fun _ _ => rfl) (rf6_1 hR) ?_
        refine go_aload_n (x := 6) dX2_goBack_30 rfl ?_
        refine go_getI' (v := (h.1 6 2)) dX2_goBack_31 f2_20 sh6 (fun _ _ => rfl) rfl ?_
        refine go_aald (x := (9 + ((h.1 6 2) : Int32).toNatClampNeg)) dX2_goBack_34 sh8 vc.1 (rf_past hR vc.1) ?_
        have hz := vc.1
        have vc := vc.2
        refine go_iconst (v := 0) dX2_goBack_35 rfl ?_
        refine go_aload_n (x := 6) dX2_goBack_36 rfl ?_
        refine go_getR (x := 7) dX2_goBack_37 f2_11 sh6 (fun _ _ => rfl) (rf6_0 hR) ?_
        refine go_iconst (v := 0) dX2_goBack_40 rfl ?_
        refine go_bipush (v := 67) dX2_goBack_41 rfl ?_
        refine go_copy (k0 := (9 + ((h.1 6 2) : Int32).toNatClampNeg)) (k1 := 7) dX2_goBack_43 lYX2_48 (sh_past hz) sh7 (by decide) (by decide) (by decide) (by decide) (by decide) (Nat.le_of_ble_eq_true rfl) ?_
        show gg p l e s m args below meth c G (d + 1) MX2_goBack Q 46 [some (.ref 6)] [] (sA h 7 (va_cpy (h.1 (9 + ((h.1 6 2) : Int32).toNatClampNeg)) (h.1 7) 0 0 67))
        refine go_aload_n (x := 6) dX2_goBack_46 rfl ?_
        refine go_aload_n (x := 6) dX2_goBack_47 rfl ?_
        refine go_getI' (v := (h.1 6 2)) dX2_goBack_48 f2_20 sh6 (fun _ _ => rfl) rfl ?_
        refine go_bipush (v := 20) dX2_goBack_51 rfl ?_
        refine go_iadd dX2_goBack_53 ?_
        refine go_iconst (v := 1) dX2_goBack_54 rfl ?_
        refine go_isub dX2_goBack_55 ?_
        refine go_bipush (v := 20) dX2_goBack_56 rfl ?_
        refine go_irem dX2_goBack_58 (by decide) ?_
        refine go_putI dX2_goBack_59 f2_20 sh6 rfl rfl ?_
        refine go_aload_n (x := 6) dX2_goBack_62 rfl ?_
        refine go_dup dX2_goBack_63 rfl ?_
        refine go_getI' (v := (h.1 6 4)) dX2_goBack_64 f2_27 sh6 (fun _ _ => rfl) rfl ?_
        refine go_iconst (v := 1) dX2_goBack_67 rfl ?_
        refine go_isub dX2_goBack_68 ?_
        refine go_putI dX2_goBack_69 f2_27 sh6 rfl rfl ?_
        refine go_iconst (v := 1) dX2_goBack_72 rfl ?_
        exact go_zret dX2_goBack_73 rfl (by decide) vc rfl (Nat.le_refl _) (Nat.le_refl _)
      · replace vc := vc.2 q
        refine go_iconst (v := 0) dX2_goBack_24 rfl ?_
        exact go_zret dX2_goBack_25 rfl (by decide) vc rfl (Nat.le_refl _) (Nat.le_refl _)
set_option maxRecDepth 20000 in
theorem wX2_isBoat_0 {p : Program} {l : Launch} {e : Env} {s : State} {m : MethodId} {args : Array Value} {below : List Frame} {meth : Method} {c : Code} {G : gG} {d : Nat} {Q : Option Value → gH → Prop} {h : gH} {lk sp : Nat} {cd : Option Nat} {a1 : Int32} (hR : h.2.2 = gRF lk sp cd) (hlk : lk = 30 ∨ lk = 67) (hsp : sp = 30 ∨ sp = 67)  (vc : ((a1 < 0 → Q (some (.int 0)) h) ∧ (¬ a1 < 0 → (((h.1 6 3) ≤ a1 → Q (some (.int 0)) h) ∧ (¬ (h.1 6 3) ≤ a1 → ((6 ≤ a1 → Q (some (.int 0)) h) ∧ (¬ 6 ≤ a1 → Q (some (.int 1)) h))))))) : gg p l e s m args below meth c G d MX2_isBoat Q 0 [some (.ref 6), some (.int a1)] [] h := by
  refine go_iload_n (x := a1) dX2_isBoat_0 rfl ?_
  refine go_if_lt 22 dX2_isBoat_1 rfl (fun q => ?_) (fun q => ?_)
  · replace vc := vc.1 q
    refine go_iconst (v := 0) dX2_isBoat_22 rfl ?_
    exact go_zret dX2_isBoat_23 rfl (by decide) vc rfl (Nat.le_refl _) (Nat.le_refl _)
  · replace vc := vc.2 q
    refine go_iload_n (x := a1) dX2_isBoat_4 rfl ?_
    refine go_aload_n (x := 6) dX2_isBoat_5 rfl ?_
    refine go_getI' (v := (h.1 6 3)) dX2_isBoat_6 f2_24 sh6 (fun _ _ => rfl) rfl ?_
    refine go_icmp_ge 22 dX2_isBoat_9 rfl (fun q => ?_) (fun q => ?_)
    · replace vc := vc.1 q
      refine go_iconst (v := 0) dX2_isBoat_22 rfl ?_
      exact go_zret dX2_isBoat_23 rfl (by decide) vc rfl (Nat.le_refl _) (Nat.le_refl _)
    · replace vc := vc.2 q
      refine go_iload_n (x := a1) dX2_isBoat_12 rfl ?_
      refine go_bipush (v := 6) dX2_isBoat_13 rfl ?_
      refine go_icmp_ge 22 dX2_isBoat_15 rfl (fun q => ?_) (fun q => ?_)
      · replace vc := vc.1 q
        refine go_iconst (v := 0) dX2_isBoat_22 rfl ?_
        exact go_zret dX2_isBoat_23 rfl (by decide) vc rfl (Nat.le_refl _) (Nat.le_refl _)
      · replace vc := vc.2 q
        refine go_iconst (v := 1) dX2_isBoat_18 rfl ?_
        refine go_goto 23 dX2_isBoat_19 rfl ?_
        exact go_zret dX2_isBoat_23 rfl (by decide) vc rfl (Nat.le_refl _) (Nat.le_refl _)
set_option maxRecDepth 20000 in
theorem wX2_hour_0 {p : Program} {l : Launch} {e : Env} {s : State} {m : MethodId} {args : Array Value} {below : List Frame} {meth : Method} {c : Code} {G : gG} {d : Nat} {Q : Option Value → gH → Prop} {h : gH} {lk sp : Nat} {cd : Option Nat}  (hR : h.2.2 = gRF lk sp cd) (hlk : lk = 30 ∨ lk = 67) (hsp : sp = 30 ∨ sp = 67)  (vc : Q (some (.int (h.1 7 0))) h) : gg p l e s m args below meth c G d MX2_hour Q 0 [some (.ref 6)] [] h := by
  refine go_aload_n (x := 6) dX2_hour_0 rfl ?_
  refine go_getR (x := 7) dX2_hour_1 f2_11 sh6 (fun _ _ => rfl) (rf6_0 hR) ?_
  refine go_iconst (v := 0) dX2_hour_4 rfl ?_
  refine go_iald' (v := (h.1 7 0)) dX2_hour_5 sh7 (by unfold vp_in; decide) rfl ?_
  exact go_iret dX2_hour_6 rfl vc rfl (Nat.le_refl _) (Nat.le_refl _)
set_option maxRecDepth 20000 in
theorem wX2_coins_0 {p : Program} {l : Launch} {e : Env} {s : State} {m : MethodId} {args : Array Value} {below : List Frame} {meth : Method} {c : Code} {G : gG} {d : Nat} {Q : Option Value → gH → Prop} {h : gH} {lk sp : Nat} {cd : Option Nat}  (hR : h.2.2 = gRF lk sp cd) (hlk : lk = 30 ∨ lk = 67) (hsp : sp = 30 ∨ sp = 67)  (vc : Q (some (.int (h.1 7 1))) h) : gg p l e s m args below meth c G d MX2_coins Q 0 [some (.ref 6)] [] h := by
  refine go_aload_n (x := 6) dX2_coins_0 rfl ?_
  refine go_getR (x := 7) dX2_coins_1 f2_11 sh6 (fun _ _ => rfl) (rf6_0 hR) ?_
  refine go_iconst (v := 1) dX2_coins_4 rfl ?_
  refine go_iald' (v := (h.1 7 1)) dX2_coins_5 sh7 (by unfold vp_in; decide) rfl ?_
  exact go_iret dX2_coins_6 rfl vc rfl (Nat.le_refl _) (Nat.le_refl _)
set_option maxRecDepth 20000 in
theorem wX2_cellOf_0 {p : Program} {l : Launch} {e : Env} {s : State} {m : MethodId} {args : Array Value} {below : List Frame} {meth : Method} {c : Code} {G : gG} {d : Nat} {Q : Option Value → gH → Prop} {h : gH} {lk sp : Nat} {cd : Option Nat} {a1 : Int32} (hR : h.2.2 = gRF lk sp cd) (hlk : lk = 30 ∨ lk = 67) (hsp : sp = 30 ∨ sp = 67)  (vc : gC l G d MX2_isBoat [.ref 6, .int a1] h (rI fun v1 h1 => h1.2.2 = (h).2.2 ∧ ((v1 = 0 → Q (some (.int (-1))) h1) ∧ (¬ v1 = 0 → (vp_in ((3 + a1)) 67 ∧ Q (some (.int (h1.1 7 ((3 + a1) : Int32).toNatClampNeg))) h1))))) : gg p l e s m args below meth c G (d + 1) MX2_cellOf Q 0 [some (.ref 6), some (.int a1)] [] h := by
  refine go_aload_n (x := 6) dX2_cellOf_0 rfl ?_
  refine go_iload_n (x := a1) dX2_cellOf_1 rfl ?_
  refine gvI1 MX2_isBoat dX2_cellOf_2 lX2_54 kX2_isBoat vX2_isBoat sh6 (by decide) rfl (Nat.le_of_ble_eq_true rfl) vc ?_
  intro v1 h1 vc
  obtain ⟨hR1, vc⟩ := vc
  replace hR := hR1.trans hR
  refine go_if_eq 19 dX2_cellOf_5 rfl (fun q => ?_) (fun q => ?_)
  · replace vc := vc.1 q
    refine go_iconst (v := (-1)) dX2_cellOf_19 rfl ?_
    exact go_iret dX2_cellOf_20 rfl vc rfl (Nat.le_refl _) (Nat.le_refl _)
  · replace vc := vc.2 q
    refine go_aload_n (x := 6) dX2_cellOf_8 rfl ?_
    refine go_getR (x := 7) dX2_cellOf_9 f2_11 sh6 (fun _ _ => rfl) (rf6_0 hR) ?_
    refine go_iconst (v := 3) dX2_cellOf_12 rfl ?_
    refine go_iload_n (x := a1) dX2_cellOf_13 rfl ?_
    refine go_iadd dX2_cellOf_14 ?_
    refine go_iald' (v := (h1.1 7 ((3 + a1) : Int32).toNatClampNeg)) dX2_cellOf_15 sh7 vc.1 rfl ?_
    have vc := vc.2
    refine go_goto 20 dX2_cellOf_16 rfl ?_
    exact go_iret dX2_cellOf_20 rfl vc rfl (Nat.le_refl _) (Nat.le_refl _)
set_option maxRecDepth 20000 in
theorem wX2_trustOf_0 {p : Program} {l : Launch} {e : Env} {s : State} {m : MethodId} {args : Array Value} {below : List Frame} {meth : Method} {c : Code} {G : gG} {d : Nat} {Q : Option Value → gH → Prop} {h : gH} {lk sp : Nat} {cd : Option Nat} {a1 : Int32} (hR : h.2.2 = gRF lk sp cd) (hlk : lk = 30 ∨ lk = 67) (hsp : sp = 30 ∨ sp = 67)  (vc : gC l G d MX2_isBoat [.ref 6, .int a1] h (rI fun v1 h1 => h1.2.2 = (h).2.2 ∧ ((v1 = 0 → Q (some (.int 0)) h1) ∧ (¬ v1 = 0 → (vp_in ((9 + a1)) 67 ∧ Q (some (.int (h1.1 7 ((9 + a1) : Int32).toNatClampNeg))) h1))))) : gg p l e s m args below meth c G (d + 1) MX2_trustOf Q 0 [some (.ref 6), some (.int a1)] [] h := by
  refine go_aload_n (x := 6) dX2_trustOf_0 rfl ?_
  refine go_iload_n (x := a1) dX2_trustOf_1 rfl ?_
  refine gvI1 MX2_isBoat dX2_trustOf_2 lX2_54 kX2_isBoat vX2_isBoat sh6 (by decide) rfl (Nat.le_of_ble_eq_true rfl) vc ?_
  intro v1 h1 vc
  obtain ⟨hR1, vc⟩ := vc
  replace hR := hR1.trans hR
  refine go_if_eq 20 dX2_trustOf_5 rfl (fun q => ?_) (fun q => ?_)
  · replace vc := vc.1 q
    refine go_iconst (v := 0) dX2_trustOf_20 rfl ?_
    exact go_iret dX2_trustOf_21 rfl vc rfl (Nat.le_refl _) (Nat.le_refl _)
  · replace vc := vc.2 q
    refine go_aload_n (x := 6) dX2_trustOf_8 rfl ?_
    refine go_getR (x := 7) dX2_trustOf_9 f2_11 sh6 (fun _ _ => rfl) (rf6_0 hR) ?_
    refine go_bipush (v := 9) dX2_trustOf_12 rfl ?_
    refine go_iload_n (x := a1) dX2_trustOf_14 rfl ?_
    refine go_iadd dX2_trustOf_15 ?_
    refine go_iald' (v := (h1.1 7 ((9 + a1) : Int32).toNatClampNeg)) dX2_trustOf_16 sh7 vc.1 rfl ?_
    have vc := vc.2
    refine go_goto 21 dX2_trustOf_17 rfl ?_
    exact go_iret dX2_trustOf_21 rfl vc rfl (Nat.le_refl _) (Nat.le_refl _)
set_option maxRecDepth 20000 in
theorem wX2_balksOf_0 {p : Program} {l : Launch} {e : Env} {s : State} {m : MethodId} {args : Array Value} {below : List Frame} {meth : Method} {c : Code} {G : gG} {d : Nat} {Q : Option Value → gH → Prop} {h : gH} {lk sp : Nat} {cd : Option Nat} {a1 : Int32} (hR : h.2.2 = gRF lk sp cd) (hlk : lk = 30 ∨ lk = 67) (hsp : sp = 30 ∨ sp = 67)  (vc : gC l G d MX2_isBoat [.ref 6, .int a1] h (rI fun v1 h1 => h1.2.2 = (h).2.2 ∧ ((v1 = 0 → Q (some (.int 0)) h1) ∧ (¬ v1 = 0 → (vp_in ((15 + a1)) 67 ∧ Q (some (.int (h1.1 7 ((15 + a1) : Int32).toNatClampNeg))) h1))))) : gg p l e s m args below meth c G (d + 1) MX2_balksOf Q 0 [some (.ref 6), some (.int a1)] [] h := by
  refine go_aload_n (x := 6) dX2_balksOf_0 rfl ?_
  refine go_iload_n (x := a1) dX2_balksOf_1 rfl ?_
  refine gvI1 MX2_isBoat dX2_balksOf_2 lX2_54 kX2_isBoat vX2_isBoat sh6 (by decide) rfl (Nat.le_of_ble_eq_true rfl) vc ?_
  intro v1 h1 vc
  obtain ⟨hR1, vc⟩ := vc
  replace hR := hR1.trans hR
  refine go_if_eq 20 dX2_balksOf_5 rfl (fun q => ?_) (fun q => ?_)
  · replace vc := vc.1 q
    refine go_iconst (v := 0) dX2_balksOf_20 rfl ?_
    exact go_iret dX2_balksOf_21 rfl vc rfl (Nat.le_refl _) (Nat.le_refl _)
  · replace vc := vc.2 q
    refine go_aload_n (x := 6) dX2_balksOf_8 rfl ?_
    refine go_getR (x := 7) dX2_balksOf_9 f2_11 sh6 (fun _ _ => rfl) (rf6_0 hR) ?_
    refine go_bipush (v := 15) dX2_balksOf_12 rfl ?_
    refine go_iload_n (x := a1) dX2_balksOf_14 rfl ?_
    refine go_iadd dX2_balksOf_15 ?_
    refine go_iald' (v := (h1.1 7 ((15 + a1) : Int32).toNatClampNeg)) dX2_balksOf_16 sh7 vc.1 rfl ?_
    have vc := vc.2
    refine go_goto 21 dX2_balksOf_17 rfl ?_
    exact go_iret dX2_balksOf_21 rfl vc rfl (Nat.le_refl _) (Nat.le_refl _)
set_option maxRecDepth 20000 in
theorem wX2_handOf_0 {p : Program} {l : Launch} {e : Env} {s : State} {m : MethodId} {args : Array Value} {below : List Frame} {meth : Method} {c : Code} {G : gG} {d : Nat} {Q : Option Value → gH → Prop} {h : gH} {lk sp : Nat} {cd : Option Nat} {a1 : Int32} (hR : h.2.2 = gRF lk sp cd) (hlk : lk = 30 ∨ lk = 67) (hsp : sp = 30 ∨ sp = 67)  (vc : gC l G d MX2_isBoat [.ref 6, .int a1] h (rI fun v1 h1 => h1.2.2 = (h).2.2 ∧ ((v1 = 0 → Q (some (.int (-1))) h1) ∧ (¬ v1 = 0 → (vp_in ((21 + a1)) 67 ∧ Q (some (.int (h1.1 7 ((21 + a1) : Int32).toNatClampNeg))) h1))))) : gg p l e s m args below meth c G (d + 1) MX2_handOf Q 0 [some (.ref 6), some (.int a1)] [] h := by
  refine go_aload_n (x := 6) dX2_handOf_0 rfl ?_
  refine go_iload_n (x := a1) dX2_handOf_1 rfl ?_
  refine gvI1 MX2_isBoat dX2_handOf_2 lX2_54 kX2_isBoat vX2_isBoat sh6 (by decide) rfl (Nat.le_of_ble_eq_true rfl) vc ?_
  intro v1 h1 vc
  obtain ⟨hR1, vc⟩ := vc
  replace hR := hR1.trans hR
  refine go_if_eq 20 dX2_handOf_5 rfl (fun q => ?_) (fun q => ?_)
  · replace vc := vc.1 q
    refine go_iconst (v := (-1)) dX2_handOf_20 rfl ?_
    exact go_iret dX2_handOf_21 rfl vc rfl (Nat.le_refl _) (Nat.le_refl _)
  · replace vc := vc.2 q
    refine go_aload_n (x := 6) dX2_handOf_8 rfl ?_
    refine go_getR (x := 7) dX2_handOf_9 f2_11 sh6 (fun _ _ => rfl) (rf6_0 hR) ?_
    refine go_bipush (v := 21) dX2_handOf_12 rfl ?_
    refine go_iload_n (x := a1) dX2_handOf_14 rfl ?_
    refine go_iadd dX2_handOf_15 ?_
    refine go_iald' (v := (h1.1 7 ((21 + a1) : Int32).toNatClampNeg)) dX2_handOf_16 sh7 vc.1 rfl ?_
    have vc := vc.2
    refine go_goto 21 dX2_handOf_17 rfl ?_
    exact go_iret dX2_handOf_21 rfl vc rfl (Nat.le_refl _) (Nat.le_refl _)
set_option maxRecDepth 20000 in
theorem wX2_boatOf_0 {p : Program} {l : Launch} {e : Env} {s : State} {m : MethodId} {args : Array Value} {below : List Frame} {meth : Method} {c : Code} {G : gG} {d : Nat} {Q : Option Value → gH → Prop} {h : gH} {lk sp : Nat} {cd : Option Nat} {a1 : Int32} (hR : h.2.2 = gRF lk sp cd) (hlk : lk = 30 ∨ lk = 67) (hsp : sp = 30 ∨ sp = 67)  (vc : gg p l e s m args below meth c G (d + 1) MX2_boatOf Q 2 [some (.ref 6), some (.int a1), some (.int 0)] [] h) : gg p l e s m args below meth c G (d + 1) MX2_boatOf Q 0 [some (.ref 6), some (.int a1), none] [] h := by
  refine go_iconst (v := 0) dX2_boatOf_0 rfl ?_
  refine go_istore_n dX2_boatOf_1 (Nat.le_of_ble_eq_true rfl) ?_
  show gg p l e s m args below meth c G (d + 1) MX2_boatOf Q 2 [some (.ref 6), some (.int a1), some (.int 0)] [] h
  exact vc
set_option maxRecDepth 20000 in
theorem wX2_boatOf_2 {p : Program} {l : Launch} {e : Env} {s : State} {m : MethodId} {args : Array Value} {below : List Frame} {meth : Method} {c : Code} {G : gG} {d : Nat} {Q : Option Value → gH → Prop} {h : gH} {lk sp : Nat} {cd : Option Nat} {x1 : Int32} {x2 : Int32} (hR : h.2.2 = gRF lk sp cd) (hlk : lk = 30 ∨ lk = 67) (hsp : sp = 30 ∨ sp = 67)  (vc : (((h.1 6 3) ≤ x2 → Q (some (.int (-1))) h) ∧ (¬ (h.1 6 3) ≤ x2 → gC l G d MX2_handOf [.ref 6, .int x2] h (rI fun v1 h1 => h1.2.2 = (h).2.2 ∧ ((¬ v1 = x1 → gg p l e s m args below meth c G (d + 1) MX2_boatOf Q 2 [some (.ref 6), some (.int x1), some (.int (x2 + 1))] [] h1) ∧ (v1 = x1 → Q (some (.int x2)) h1)))))) : gg p l e s m args below meth c G (d + 1) MX2_boatOf Q 2 [some (.ref 6), some (.int x1), some (.int x2)] [] h := by
  refine go_iload_n (x := x2) dX2_boatOf_2 rfl ?_
  refine go_aload_n (x := 6) dX2_boatOf_3 rfl ?_
  refine go_getI' (v := (h.1 6 3)) dX2_boatOf_4 f2_24 sh6 (fun _ _ => rfl) rfl ?_
  refine go_icmp_ge 27 dX2_boatOf_7 rfl (fun q => ?_) (fun q => ?_)
  · replace vc := vc.1 q
    refine go_iconst (v := (-1)) dX2_boatOf_27 rfl ?_
    exact go_iret dX2_boatOf_28 rfl vc rfl (Nat.le_refl _) (Nat.le_refl _)
  · replace vc := vc.2 q
    refine go_aload_n (x := 6) dX2_boatOf_10 rfl ?_
    refine go_iload_n (x := x2) dX2_boatOf_11 rfl ?_
    refine gvI1 MX2_handOf dX2_boatOf_12 lX2_58 kX2_handOf vX2_handOf sh6 (by decide) rfl (Nat.le_of_ble_eq_true rfl) vc ?_
    intro v1 h1 vc
    obtain ⟨hR1, vc⟩ := vc
    replace hR := hR1.trans hR
    refine go_iload_n (x := x1) dX2_boatOf_15 rfl ?_
    refine go_icmp_ne 21 dX2_boatOf_16 rfl (fun q => ?_) (fun q => ?_)
    · replace vc := vc.1 q
      refine go_iinc (x := x2) dX2_boatOf_21 rfl ?_
      show gg p l e s m args below meth c G (d + 1) MX2_boatOf Q 24 [some (.ref 6), some (.int x1), some (.int (x2 + 1))] [] h1
      refine go_goto 2 dX2_boatOf_24 rfl ?_
      exact vc
    · replace vc := vc.2 q
      refine go_iload_n (x := x2) dX2_boatOf_19 rfl ?_
      exact go_iret dX2_boatOf_20 rfl vc rfl (Nat.le_refl _) (Nat.le_refl _)
set_option maxRecDepth 20000 in
theorem wX2_bitsIn_0 {p : Program} {l : Launch} {e : Env} {s : State} {m : MethodId} {args : Array Value} {below : List Frame} {meth : Method} {c : Code} {G : gG} {d : Nat} {Q : Option Value → gH → Prop} {h : gH} {lk sp : Nat} {cd : Option Nat} {a1 : Int32} (hR : h.2.2 = gRF lk sp cd) (hlk : lk = 30 ∨ lk = 67) (hsp : sp = 30 ∨ sp = 67)  (vc : gg p l e s m args below meth c G (d + 1) MX2_bitsIn Q 4 [some (.ref 6), some (.int a1), some (.int 0), some (.int 0)] [] h) : gg p l e s m args below meth c G (d + 1) MX2_bitsIn Q 0 [some (.ref 6), some (.int a1), none, none] [] h := by
  refine go_iconst (v := 0) dX2_bitsIn_0 rfl ?_
  refine go_istore_n dX2_bitsIn_1 (Nat.le_of_ble_eq_true rfl) ?_
  show gg p l e s m args below meth c G (d + 1) MX2_bitsIn Q 2 [some (.ref 6), some (.int a1), some (.int 0), none] [] h
  refine go_iconst (v := 0) dX2_bitsIn_2 rfl ?_
  refine go_istore_n dX2_bitsIn_3 (Nat.le_of_ble_eq_true rfl) ?_
  show gg p l e s m args below meth c G (d + 1) MX2_bitsIn Q 4 [some (.ref 6), some (.int a1), some (.int 0), some (.int 0)] [] h
  exact vc
set_option maxRecDepth 20000 in
theorem wX2_bitsIn_4 {p : Program} {l : Launch} {e : Env} {s : State} {m : MethodId} {args : Array Value} {below : List Frame} {meth : Method} {c : Code} {G : gG} {d : Nat} {Q : Option Value → gH → Prop} {h : gH} {lk sp : Nat} {cd : Option Nat} {x1 : Int32} {x2 : Int32} {x3 : Int32} (hR : h.2.2 = gRF lk sp cd) (hlk : lk = 30 ∨ lk = 67) (hsp : sp = 30 ∨ sp = 67)  (vc : (((h.1 6 3) ≤ x3 → Q (some (.int x2)) h) ∧ (¬ (h.1 6 3) ≤ x3 → gC l G d MX2_cellOf [.ref 6, .int x3] h (rI fun v1 h1 => h1.2.2 = (h).2.2 ∧ ((¬ v1 = x1 → gg p l e s m args below meth c G (d + 1) MX2_bitsIn Q 4 [some (.ref 6), some (.int x1), some (.int x2), some (.int (x3 + 1))] [] h1) ∧ (v1 = x1 → gg p l e s m args below meth c G (d + 1) MX2_bitsIn Q 4 [some (.ref 6), some (.int x1), some (.int (x2 ||| (1 <<< (x3 &&& 31)))), some (.int (x3 + 1))] [] h1)))))) : gg p l e s m args below meth c G (d + 1) MX2_bitsIn Q 4 [some (.ref 6), some (.int x1), some (.int x2), some (.int x3)] [] h := by
  refine go_iload_n (x := x3) dX2_bitsIn_4 rfl ?_
  refine go_aload_n (x := 6) dX2_bitsIn_5 rfl ?_
  refine go_getI' (v := (h.1 6 3)) dX2_bitsIn_6 f2_24 sh6 (fun _ _ => rfl) rfl ?_
  refine go_icmp_ge 33 dX2_bitsIn_9 rfl (fun q => ?_) (fun q => ?_)
  · replace vc := vc.1 q
    refine go_iload_n (x := x2) dX2_bitsIn_33 rfl ?_
    exact go_iret dX2_bitsIn_34 rfl vc rfl (Nat.le_refl _) (Nat.le_refl _)
  · replace vc := vc.2 q
    refine go_aload_n (x := 6) dX2_bitsIn_12 rfl ?_
    refine go_iload_n (x := x3) dX2_bitsIn_13 rfl ?_
    refine gvI1 MX2_cellOf dX2_bitsIn_14 lX2_62 kX2_cellOf vX2_cellOf sh6 (by decide) rfl (Nat.le_of_ble_eq_true rfl) vc ?_
    intro v1 h1 vc
    obtain ⟨hR1, vc⟩ := vc
    replace hR := hR1.trans hR
    refine go_iload_n (x := x1) dX2_bitsIn_17 rfl ?_
    refine go_icmp_ne 27 dX2_bitsIn_18 rfl (fun q => ?_) (fun q => ?_)
    · replace vc := vc.1 q
      refine go_iinc (x := x3) dX2_bitsIn_27 rfl ?_
      show gg p l e s m args below meth c G (d + 1) MX2_bitsIn Q 30 [some (.ref 6), some (.int x1), some (.int x2), some (.int (x3 + 1))] [] h1
      refine go_goto 4 dX2_bitsIn_30 rfl ?_
      exact vc
    · replace vc := vc.2 q
      refine go_iload_n (x := x2) dX2_bitsIn_21 rfl ?_
      refine go_iconst (v := 1) dX2_bitsIn_22 rfl ?_
      refine go_iload_n (x := x3) dX2_bitsIn_23 rfl ?_
      refine go_ishl dX2_bitsIn_24 ?_
      refine go_ior dX2_bitsIn_25 ?_
      refine go_istore_n dX2_bitsIn_26 (Nat.le_of_ble_eq_true rfl) ?_
      show gg p l e s m args below meth c G (d + 1) MX2_bitsIn Q 27 [some (.ref 6), some (.int x1), some (.int (x2 ||| (1 <<< (x3 &&& 31)))), some (.int x3)] [] h1
      refine go_iinc (x := x3) dX2_bitsIn_27 rfl ?_
      show gg p l e s m args below meth c G (d + 1) MX2_bitsIn Q 30 [some (.ref 6), some (.int x1), some (.int (x2 ||| (1 <<< (x3 &&& 31)))), some (.int (x3 + 1))] [] h1
      refine go_goto 4 dX2_bitsIn_30 rfl ?_
      exact vc
set_option maxRecDepth 20000 in
theorem wX2_allTrust_0 {p : Program} {l : Launch} {e : Env} {s : State} {m : MethodId} {args : Array Value} {below : List Frame} {meth : Method} {c : Code} {G : gG} {d : Nat} {Q : Option Value → gH → Prop} {h : gH} {lk sp : Nat} {cd : Option Nat}  (hR : h.2.2 = gRF lk sp cd) (hlk : lk = 30 ∨ lk = 67) (hsp : sp = 30 ∨ sp = 67)  (vc : gg p l e s m args below meth c G (d + 1) MX2_allTrust Q 4 [some (.ref 6), some (.int 0), some (.int 0)] [] h) : gg p l e s m args below meth c G (d + 1) MX2_allTrust Q 0 [some (.ref 6), none, none] [] h := by
  refine go_iconst (v := 0) dX2_allTrust_0 rfl ?_
  refine go_istore_n dX2_allTrust_1 (Nat.le_of_ble_eq_true rfl) ?_
  show gg p l e s m args below meth c G (d + 1) MX2_allTrust Q 2 [some (.ref 6), some (.int 0), none] [] h
  refine go_iconst (v := 0) dX2_allTrust_2 rfl ?_
  refine go_istore_n dX2_allTrust_3 (Nat.le_of_ble_eq_true rfl) ?_
  show gg p l e s m args below meth c G (d + 1) MX2_allTrust Q 4 [some (.ref 6), some (.int 0), some (.int 0)] [] h
  exact vc
set_option maxRecDepth 20000 in
theorem wX2_allTrust_4 {p : Program} {l : Launch} {e : Env} {s : State} {m : MethodId} {args : Array Value} {below : List Frame} {meth : Method} {c : Code} {G : gG} {d : Nat} {Q : Option Value → gH → Prop} {h : gH} {lk sp : Nat} {cd : Option Nat} {x1 : Int32} {x2 : Int32} (hR : h.2.2 = gRF lk sp cd) (hlk : lk = 30 ∨ lk = 67) (hsp : sp = 30 ∨ sp = 67)  (vc : (((h.1 6 3) ≤ x2 → Q (some (.int x1)) h) ∧ (¬ (h.1 6 3) ≤ x2 → gC l G d MX2_trustOf [.ref 6, .int x2] h (rI fun v1 h1 => h1.2.2 = (h).2.2 ∧ gg p l e s m args below meth c G (d + 1) MX2_allTrust Q 4 [some (.ref 6), some (.int (x1 + v1)), some (.int (x2 + 1))] [] h1)))) : gg p l e s m args below meth c G (d + 1) MX2_allTrust Q 4 [some (.ref 6), some (.int x1), some (.int x2)] [] h := by
  refine go_iload_n (x := x2) dX2_allTrust_4 rfl ?_
  refine go_aload_n (x := 6) dX2_allTrust_5 rfl ?_
  refine go_getI' (v := (h.1 6 3)) dX2_allTrust_6 f2_24 sh6 (fun _ _ => rfl) rfl ?_
  refine go_icmp_ge 26 dX2_allTrust_9 rfl (fun q => ?_) (fun q => ?_)
  · replace vc := vc.1 q
    refine go_iload_n (x := x1) dX2_allTrust_26 rfl ?_
    exact go_iret dX2_allTrust_27 rfl vc rfl (Nat.le_refl _) (Nat.le_refl _)
  · replace vc := vc.2 q
    refine go_iload_n (x := x1) dX2_allTrust_12 rfl ?_
    refine go_aload_n (x := 6) dX2_allTrust_13 rfl ?_
    refine go_iload_n (x := x2) dX2_allTrust_14 rfl ?_
    refine gvI1 MX2_trustOf dX2_allTrust_15 lX2_65 kX2_trustOf vX2_trustOf sh6 (by decide) rfl (Nat.le_of_ble_eq_true rfl) vc ?_
    intro v1 h1 vc
    obtain ⟨hR1, vc⟩ := vc
    replace hR := hR1.trans hR
    refine go_iadd dX2_allTrust_18 ?_
    refine go_istore_n dX2_allTrust_19 (Nat.le_of_ble_eq_true rfl) ?_
    show gg p l e s m args below meth c G (d + 1) MX2_allTrust Q 20 [some (.ref 6), some (.int (x1 + v1)), some (.int x2)] [] h1
    refine go_iinc (x := x2) dX2_allTrust_20 rfl ?_
    show gg p l e s m args below meth c G (d + 1) MX2_allTrust Q 23 [some (.ref 6), some (.int (x1 + v1)), some (.int (x2 + 1))] [] h1
    refine go_goto 4 dX2_allTrust_23 rfl ?_
    exact vc
set_option maxRecDepth 20000 in
theorem wX2_allBalks_0 {p : Program} {l : Launch} {e : Env} {s : State} {m : MethodId} {args : Array Value} {below : List Frame} {meth : Method} {c : Code} {G : gG} {d : Nat} {Q : Option Value → gH → Prop} {h : gH} {lk sp : Nat} {cd : Option Nat}  (hR : h.2.2 = gRF lk sp cd) (hlk : lk = 30 ∨ lk = 67) (hsp : sp = 30 ∨ sp = 67)  (vc : gg p l e s m args below meth c G (d + 1) MX2_allBalks Q 4 [some (.ref 6), some (.int 0), some (.int 0)] [] h) : gg p l e s m args below meth c G (d + 1) MX2_allBalks Q 0 [some (.ref 6), none, none] [] h := by
  refine go_iconst (v := 0) dX2_allBalks_0 rfl ?_
  refine go_istore_n dX2_allBalks_1 (Nat.le_of_ble_eq_true rfl) ?_
  show gg p l e s m args below meth c G (d + 1) MX2_allBalks Q 2 [some (.ref 6), some (.int 0), none] [] h
  refine go_iconst (v := 0) dX2_allBalks_2 rfl ?_
  refine go_istore_n dX2_allBalks_3 (Nat.le_of_ble_eq_true rfl) ?_
  show gg p l e s m args below meth c G (d + 1) MX2_allBalks Q 4 [some (.ref 6), some (.int 0), some (.int 0)] [] h
  exact vc
set_option maxRecDepth 20000 in
theorem wX2_allBalks_4 {p : Program} {l : Launch} {e : Env} {s : State} {m : MethodId} {args : Array Value} {below : List Frame} {meth : Method} {c : Code} {G : gG} {d : Nat} {Q : Option Value → gH → Prop} {h : gH} {lk sp : Nat} {cd : Option Nat} {x1 : Int32} {x2 : Int32} (hR : h.2.2 = gRF lk sp cd) (hlk : lk = 30 ∨ lk = 67) (hsp : sp = 30 ∨ sp = 67)  (vc : (((h.1 6 3) ≤ x2 → Q (some (.int x1)) h) ∧ (¬ (h.1 6 3) ≤ x2 → gC l G d MX2_balksOf [.ref 6, .int x2] h (rI fun v1 h1 => h1.2.2 = (h).2.2 ∧ gg p l e s m args below meth c G (d + 1) MX2_allBalks Q 4 [some (.ref 6), some (.int (x1 + v1)), some (.int (x2 + 1))] [] h1)))) : gg p l e s m args below meth c G (d + 1) MX2_allBalks Q 4 [some (.ref 6), some (.int x1), some (.int x2)] [] h := by
  refine go_iload_n (x := x2) dX2_allBalks_4 rfl ?_
  refine go_aload_n (x := 6) dX2_allBalks_5 rfl ?_
  refine go_getI' (v := (h.1 6 3)) dX2_allBalks_6 f2_24 sh6 (fun _ _ => rfl) rfl ?_
  refine go_icmp_ge 26 dX2_allBalks_9 rfl (fun q => ?_) (fun q => ?_)
  · replace vc := vc.1 q
    refine go_iload_n (x := x1) dX2_allBalks_26 rfl ?_
    exact go_iret dX2_allBalks_27 rfl vc rfl (Nat.le_refl _) (Nat.le_refl _)
  · replace vc := vc.2 q
    refine go_iload_n (x := x1) dX2_allBalks_12 rfl ?_
    refine go_aload_n (x := 6) dX2_allBalks_13 rfl ?_
    refine go_iload_n (x := x2) dX2_allBalks_14 rfl ?_
    refine gvI1 MX2_balksOf dX2_allBalks_15 lX2_68 kX2_balksOf vX2_balksOf sh6 (by decide) rfl (Nat.le_of_ble_eq_true rfl) vc ?_
    intro v1 h1 vc
    obtain ⟨hR1, vc⟩ := vc
    replace hR := hR1.trans hR
    refine go_iadd dX2_allBalks_18 ?_
    refine go_istore_n dX2_allBalks_19 (Nat.le_of_ble_eq_true rfl) ?_
    show gg p l e s m args below meth c G (d + 1) MX2_allBalks Q 20 [some (.ref 6), some (.int (x1 + v1)), some (.int x2)] [] h1
    refine go_iinc (x := x2) dX2_allBalks_20 rfl ?_
    show gg p l e s m args below meth c G (d + 1) MX2_allBalks Q 23 [some (.ref 6), some (.int (x1 + v1)), some (.int (x2 + 1))] [] h1
    refine go_goto 4 dX2_allBalks_23 rfl ?_
    exact vc
set_option maxRecDepth 20000 in
theorem wX2_passHours_0 {p : Program} {l : Launch} {e : Env} {s : State} {m : MethodId} {args : Array Value} {below : List Frame} {meth : Method} {c : Code} {G : gG} {d : Nat} {Q : Option Value → gH → Prop} {h : gH} {lk sp : Nat} {cd : Option Nat} {a1 : Int32} (hR : h.2.2 = gRF lk sp cd) (hlk : lk = 30 ∨ lk = 67) (hsp : sp = 30 ∨ sp = 67)  (vc : Q none (sI h 7 0 ((h.1 7 0) + a1))) : gg p l e s m args below meth c G d MX2_passHours Q 0 [some (.ref 6), some (.int a1)] [] h := by
  refine go_aload_n (x := 6) dX2_passHours_0 rfl ?_
  refine go_getR (x := 7) dX2_passHours_1 f2_11 sh6 (fun _ _ => rfl) (rf6_0 hR) ?_
  refine go_iconst (v := 0) dX2_passHours_4 rfl ?_
  refine go_dup2 dX2_passHours_5 rfl rfl ?_
  refine go_iald' (v := (h.1 7 0)) dX2_passHours_6 sh7 (by unfold vp_in; decide) rfl ?_
  refine go_iload_n (x := a1) dX2_passHours_7 rfl ?_
  refine go_iadd dX2_passHours_8 ?_
  refine go_iast dX2_passHours_9 sh7 (by unfold vp_in; decide) ?_
  exact go_vret dX2_passHours_10 rfl vc rfl (Nat.le_refl _) (Nat.le_refl _)
set_option maxRecDepth 20000 in
theorem wX2_pay_0 {p : Program} {l : Launch} {e : Env} {s : State} {m : MethodId} {args : Array Value} {below : List Frame} {meth : Method} {c : Code} {G : gG} {d : Nat} {Q : Option Value → gH → Prop} {h : gH} {lk sp : Nat} {cd : Option Nat} {a1 : Int32} (hR : h.2.2 = gRF lk sp cd) (hlk : lk = 30 ∨ lk = 67) (hsp : sp = 30 ∨ sp = 67)  (vc : Q none (sI h 7 1 (if ((h.1 7 1) + a1) < 999999 then ((h.1 7 1) + a1) else 999999))) : gg p l e s m args below meth c G (d + 1) MX2_pay Q 0 [some (.ref 6), some (.int a1)] [] h := by
  refine go_aload_n (x := 6) dX2_pay_0 rfl ?_
  refine go_getR (x := 7) dX2_pay_1 f2_11 sh6 (fun _ _ => rfl) (rf6_0 hR) ?_
  refine go_iconst (v := 1) dX2_pay_4 rfl ?_
  refine go_ldc (v := 999999) dX2_pay_5 nX2_71 ?_
  refine go_aload_n (x := 6) dX2_pay_7 rfl ?_
  refine go_getR (x := 7) dX2_pay_8 f2_11 sh6 (fun _ _ => rfl) (rf6_0 hR) ?_
  refine go_iconst (v := 1) dX2_pay_11 rfl ?_
  refine go_iald' (v := (h.1 7 1)) dX2_pay_12 sh7 (by unfold vp_in; decide) rfl ?_
  refine go_iload_n (x := a1) dX2_pay_13 rfl ?_
  refine go_iadd dX2_pay_14 ?_
  refine go_min dX2_pay_15 lX2_36 (Nat.le_of_ble_eq_true rfl) ?_
  refine go_iast dX2_pay_18 sh7 (by unfold vp_in; decide) ?_
  exact go_vret dX2_pay_19 rfl vc rfl (Nat.le_refl _) (Nat.le_refl _)
set_option maxRecDepth 20000 in
theorem wX2_setTrust_0 {p : Program} {l : Launch} {e : Env} {s : State} {m : MethodId} {args : Array Value} {below : List Frame} {meth : Method} {c : Code} {G : gG} {d : Nat} {Q : Option Value → gH → Prop} {h : gH} {lk sp : Nat} {cd : Option Nat} {a1 : Int32} {a2 : Int32} (hR : h.2.2 = gRF lk sp cd) (hlk : lk = 30 ∨ lk = 67) (hsp : sp = 30 ∨ sp = 67)  (vc : gC l G d MX2_isBoat [.ref 6, .int a1] h (rI fun v1 h1 => h1.2.2 = (h).2.2 ∧ ((v1 = 0 → Q none h1) ∧ (¬ v1 = 0 → gC l G d MX11_inTrust [.int a2] h1 (rI fun v2 h2 => h2.2.2 = (h1).2.2 ∧ (vp_in ((9 + a1)) 67 ∧ Q none (sI h2 7 ((9 + a1) : Int32).toNatClampNeg v2))))))) : gg p l e s m args below meth c G (d + 1) MX2_setTrust Q 0 [some (.ref 6), some (.int a1), some (.int a2)] [] h := by
  refine go_aload_n (x := 6) dX2_setTrust_0 rfl ?_
  refine go_iload_n (x := a1) dX2_setTrust_1 rfl ?_
  refine gvI1 MX2_isBoat dX2_setTrust_2 lX2_54 kX2_isBoat vX2_isBoat sh6 (by decide) rfl (Nat.le_of_ble_eq_true rfl) vc ?_
  intro v1 h1 vc
  obtain ⟨hR1, vc⟩ := vc
  replace hR := hR1.trans hR
  refine go_if_eq 21 dX2_setTrust_5 rfl (fun q => ?_) (fun q => ?_)
  · replace vc := vc.1 q
    exact go_vret dX2_setTrust_21 rfl vc rfl (Nat.le_refl _) (Nat.le_refl _)
  · replace vc := vc.2 q
    refine go_aload_n (x := 6) dX2_setTrust_8 rfl ?_
    refine go_getR (x := 7) dX2_setTrust_9 f2_11 sh6 (fun _ _ => rfl) (rf6_0 hR) ?_
    refine go_bipush (v := 9) dX2_setTrust_12 rfl ?_
    refine go_iload_n (x := a1) dX2_setTrust_14 rfl ?_
    refine go_iadd dX2_setTrust_15 ?_
    refine go_iload_n (x := a2) dX2_setTrust_16 rfl ?_
    refine gnI1 MX11_inTrust dX2_setTrust_17 (fun h9 => h9.1) kX11_inTrust sX11_inTrust (Nat.le_of_ble_eq_true rfl) vc ?_
    intro v2 h2 vc
    obtain ⟨hR2, vc⟩ := vc
    replace hR := hR2.trans hR
    refine go_iast dX2_setTrust_20 sh7 vc.1 ?_
    have vc := vc.2
    show gg p l e s m args below meth c G (d + 1) MX2_setTrust Q 21 [some (.ref 6), some (.int a1), some (.int a2)] [] (sI h2 7 ((9 + a1) : Int32).toNatClampNeg v2)
    exact go_vret dX2_setTrust_21 rfl vc rfl (Nat.le_refl _) (Nat.le_refl _)
set_option maxRecDepth 20000 in
theorem wX2_crew_0 {p : Program} {l : Launch} {e : Env} {s : State} {m : MethodId} {args : Array Value} {below : List Frame} {meth : Method} {c : Code} {G : gG} {d : Nat} {Q : Option Value → gH → Prop} {h : gH} {lk sp : Nat} {cd : Option Nat} {a1 : Int32} {a2 : Int32} (hR : h.2.2 = gRF lk sp cd) (hlk : lk = 30 ∨ lk = 67) (hsp : sp = 30 ∨ sp = 67)  (vc : ((¬ a2 = (-1) → gC l G d MX2_boatOf [.ref 6, .int a2] h (rI fun v1 h1 => h1.2.2 = (h).2.2 ∧ gC l G d MX2_isBoat [.ref 6, .int v1] h1 (rI fun v2 h2 => h2.2.2 = (h1).2.2 ∧ ((v2 = 0 → gC l G d MX2_isBoat [.ref 6, .int a1] h2 (rI fun v3 h3 => h3.2.2 = (h2).2.2 ∧ ((v3 = 0 → Q none h3) ∧ (¬ v3 = 0 → (vp_in ((21 + a1)) 67 ∧ Q none (sI h3 7 ((21 + a1) : Int32).toNatClampNeg a2)))))) ∧ (¬ v2 = 0 → (vp_in ((21 + v1)) 67 ∧ gC l G d MX2_isBoat [.ref 6, .int a1] (sI h2 7 ((21 + v1) : Int32).toNatClampNeg (-1)) (rI fun v4 h4 => h4.2.2 = ((sI h2 7 ((21 + v1) : Int32).toNatClampNeg (-1))).2.2 ∧ ((v4 = 0 → Q none h4) ∧ (¬ v4 = 0 → (vp_in ((21 + a1)) 67 ∧ Q none (sI h4 7 ((21 + a1) : Int32).toNatClampNeg a2))))))))))) ∧ (a2 = (-1) → gC l G d MX2_isBoat [.ref 6, .int (-1)] h (rI fun v5 h5 => h5.2.2 = (h).2.2 ∧ ((v5 = 0 → gC l G d MX2_isBoat [.ref 6, .int a1] h5 (rI fun v6 h6 => h6.2.2 = (h5).2.2 ∧ ((v6 = 0 → Q none h6) ∧ (¬ v6 = 0 → (vp_in ((21 + a1)) 67 ∧ Q none (sI h6 7 ((21 + a1) : Int32).toNatClampNeg a2)))))) ∧ (¬ v5 = 0 → (vp_in ((21 + (-1))) 67 ∧ gC l G d MX2_isBoat [.ref 6, .int a1] (sI h5 7 ((21 + (-1)) : Int32).toNatClampNeg (-1)) (rI fun v7 h7 => h7.2.2 = ((sI h5 7 ((21 + (-1)) : Int32).toNatClampNeg (-1))).2.2 ∧ ((v7 = 0 → Q none h7) ∧ (¬ v7 = 0 → (vp_in ((21 + a1)) 67 ∧ Q none (sI h7 7 ((21 + a1) : Int32).toNatClampNeg a2)))))))))))) : gg p l e s m args below meth c G (d + 1) MX2_crew Q 0 [some (.ref 6), some (.int a1), some (.int a2), none] [] h := by
  refine go_iload_n (x := a2) dX2_crew_0 rfl ?_
  refine go_iconst (v := (-1)) dX2_crew_1 rfl ?_
  refine go_icmp_ne 9 dX2_crew_2 rfl (fun q => ?_) (fun q => ?_)
  · replace vc := vc.1 q
    refine go_aload_n (x := 6) dX2_crew_9 rfl ?_
    refine go_iload_n (x := a2) dX2_crew_10 rfl ?_
    refine gvI1 MX2_boatOf dX2_crew_11 lX2_75 kX2_boatOf vX2_boatOf sh6 (by decide) rfl (Nat.le_of_ble_eq_true rfl) vc ?_
    intro v1 h1 vc
    obtain ⟨hR1, vc⟩ := vc
    replace hR := hR1.trans hR
    refine go_istore_n dX2_crew_14 (Nat.le_of_ble_eq_true rfl) ?_
    show gg p l e s m args below meth c G (d + 1) MX2_crew Q 15 [some (.ref 6), some (.int a1), some (.int a2), some (.int v1)] [] h1
    refine go_aload_n (x := 6) dX2_crew_15 rfl ?_
    refine go_iload_n (x := v1) dX2_crew_16 rfl ?_
    refine gvI1 MX2_isBoat dX2_crew_17 lX2_54 kX2_isBoat vX2_isBoat sh6 (by decide) rfl (Nat.le_of_ble_eq_true rfl) vc ?_
    intro v2 h2 vc
    obtain ⟨hR2, vc⟩ := vc
    replace hR := hR2.trans hR
    refine go_if_eq 33 dX2_crew_20 rfl (fun q => ?_) (fun q => ?_)
    · replace vc := vc.1 q
      refine go_aload_n (x := 6) dX2_crew_33 rfl ?_
      refine go_iload_n (x := a1) dX2_crew_34 rfl ?_
      refine gvI1 MX2_isBoat dX2_crew_35 lX2_54 kX2_isBoat vX2_isBoat sh6 (by decide) rfl (Nat.le_of_ble_eq_true rfl) vc ?_
      intro v3 h3 vc
      obtain ⟨hR3, vc⟩ := vc
      replace hR := hR3.trans hR
      refine go_if_eq 51 dX2_crew_38 rfl (fun q => ?_) (fun q => ?_)
      · replace vc := vc.1 q
        exact go_vret dX2_crew_51 rfl vc rfl (Nat.le_refl _) (Nat.le_refl _)
      · replace vc := vc.2 q
        refine go_aload_n (x := 6) dX2_crew_41 rfl ?_
        refine go_getR (x := 7) dX2_crew_42 f2_11 sh6 (fun _ _ => rfl) (rf6_0 hR) ?_
        refine go_bipush (v := 21) dX2_crew_45 rfl ?_
        refine go_iload_n (x := a1) dX2_crew_47 rfl ?_
        refine go_iadd dX2_crew_48 ?_
        refine go_iload_n (x := a2) dX2_crew_49 rfl ?_
        refine go_iast dX2_crew_50 sh7 vc.1 ?_
        have vc := vc.2
        show gg p l e s m args below meth c G (d + 1) MX2_crew Q 51 [some (.ref 6), some (.int a1), some (.int a2), some (.int v1)] [] (sI h3 7 ((21 + a1) : Int32).toNatClampNeg a2)
        exact go_vret dX2_crew_51 rfl vc rfl (Nat.le_refl _) (Nat.le_refl _)
    · replace vc := vc.2 q
      refine go_aload_n (x := 6) dX2_crew_23 rfl ?_
      refine go_getR (x := 7) dX2_crew_24 f2_11 sh6 (fun _ _ => rfl) (rf6_0 hR) ?_
      refine go_bipush (v := 21) dX2_crew_27 rfl ?_
      refine go_iload_n (x := v1) dX2_crew_29 rfl ?_
      refine go_iadd dX2_crew_30 ?_
      refine go_iconst (v := (-1)) dX2_crew_31 rfl ?_
      refine go_iast dX2_crew_32 sh7 vc.1 ?_
      have vc := vc.2
      show gg p l e s m args below meth c G (d + 1) MX2_crew Q 33 [some (.ref 6), some (.int a1), some (.int a2), some (.int v1)] [] (sI h2 7 ((21 + v1) : Int32).toNatClampNeg (-1))
      refine go_aload_n (x := 6) dX2_crew_33 rfl ?_
      refine go_iload_n (x := a1) dX2_crew_34 rfl ?_
      refine gvI1 MX2_isBoat dX2_crew_35 lX2_54 kX2_isBoat vX2_isBoat sh6 (by decide) rfl (Nat.le_of_ble_eq_true rfl) vc ?_
      intro v4 h4 vc
      obtain ⟨hR4, vc⟩ := vc
      replace hR := hR4.trans hR
      refine go_if_eq 51 dX2_crew_38 rfl (fun q => ?_) (fun q => ?_)
      · replace vc := vc.1 q
        exact go_vret dX2_crew_51 rfl vc rfl (Nat.le_refl _) (Nat.le_refl _)
      · replace vc := vc.2 q
        refine go_aload_n (x := 6) dX2_crew_41 rfl ?_
        refine go_getR (x := 7) dX2_crew_42 f2_11 sh6 (fun _ _ => rfl) (rf6_0 hR) ?_
        refine go_bipush (v := 21) dX2_crew_45 rfl ?_
        refine go_iload_n (x := a1) dX2_crew_47 rfl ?_
        refine go_iadd dX2_crew_48 ?_
        refine go_iload_n (x := a2) dX2_crew_49 rfl ?_
        refine go_iast dX2_crew_50 sh7 vc.1 ?_
        have vc := vc.2
        show gg p l e s m args below meth c G (d + 1) MX2_crew Q 51 [some (.ref 6), some (.int a1), some (.int a2), some (.int v1)] [] (sI h4 7 ((21 + a1) : Int32).toNatClampNeg a2)
        exact go_vret dX2_crew_51 rfl vc rfl (Nat.le_refl _) (Nat.le_refl _)
  · replace vc := vc.2 q
    refine go_iconst (v := (-1)) dX2_crew_5 rfl ?_
    refine go_goto 14 dX2_crew_6 rfl ?_
    refine go_istore_n dX2_crew_14 (Nat.le_of_ble_eq_true rfl) ?_
    show gg p l e s m args below meth c G (d + 1) MX2_crew Q 15 [some (.ref 6), some (.int a1), some (.int a2), some (.int (-1))] [] h
    refine go_aload_n (x := 6) dX2_crew_15 rfl ?_
    refine go_iload_n (x := (-1)) dX2_crew_16 rfl ?_
    refine gvI1 MX2_isBoat dX2_crew_17 lX2_54 kX2_isBoat vX2_isBoat sh6 (by decide) rfl (Nat.le_of_ble_eq_true rfl) vc ?_
    intro v5 h5 vc
    obtain ⟨hR5, vc⟩ := vc
    replace hR := hR5.trans hR
    refine go_if_eq 33 dX2_crew_20 rfl (fun q => ?_) (fun q => ?_)
    · replace vc := vc.1 q
      refine go_aload_n (x := 6) dX2_crew_33 rfl ?_
      refine go_iload_n (x := a1) dX2_crew_34 rfl ?_
      refine gvI1 MX2_isBoat dX2_crew_35 lX2_54 kX2_isBoat vX2_isBoat sh6 (by decide) rfl (Nat.le_of_ble_eq_true rfl) vc ?_
      intro v6 h6 vc
      obtain ⟨hR6, vc⟩ := vc
      replace hR := hR6.trans hR
      refine go_if_eq 51 dX2_crew_38 rfl (fun q => ?_) (fun q => ?_)
      · replace vc := vc.1 q
        exact go_vret dX2_crew_51 rfl vc rfl (Nat.le_refl _) (Nat.le_refl _)
      · replace vc := vc.2 q
        refine go_aload_n (x := 6) dX2_crew_41 rfl ?_
        refine go_getR (x := 7) dX2_crew_42 f2_11 sh6 (fun _ _ => rfl) (rf6_0 hR) ?_
        refine go_bipush (v := 21) dX2_crew_45 rfl ?_
        refine go_iload_n (x := a1) dX2_crew_47 rfl ?_
        refine go_iadd dX2_crew_48 ?_
        refine go_iload_n (x := a2) dX2_crew_49 rfl ?_
        refine go_iast dX2_crew_50 sh7 vc.1 ?_
        have vc := vc.2
        show gg p l e s m args below meth c G (d + 1) MX2_crew Q 51 [some (.ref 6), some (.int a1), some (.int a2), some (.int (-1))] [] (sI h6 7 ((21 + a1) : Int32).toNatClampNeg a2)
        exact go_vret dX2_crew_51 rfl vc rfl (Nat.le_refl _) (Nat.le_refl _)
    · replace vc := vc.2 q
      refine go_aload_n (x := 6) dX2_crew_23 rfl ?_
      refine go_getR (x := 7) dX2_crew_24 f2_11 sh6 (fun _ _ => rfl) (rf6_0 hR) ?_
      refine go_bipush (v := 21) dX2_crew_27 rfl ?_
      refine go_iload_n (x := (-1)) dX2_crew_29 rfl ?_
      refine go_iadd dX2_crew_30 ?_
      refine go_iconst (v := (-1)) dX2_crew_31 rfl ?_
      refine go_iast dX2_crew_32 sh7 vc.1 ?_
      have vc := vc.2
      show gg p l e s m args below meth c G (d + 1) MX2_crew Q 33 [some (.ref 6), some (.int a1), some (.int a2), some (.int (-1))] [] (sI h5 7 ((21 + (-1)) : Int32).toNatClampNeg (-1))
      refine go_aload_n (x := 6) dX2_crew_33 rfl ?_
      refine go_iload_n (x := a1) dX2_crew_34 rfl ?_
      refine gvI1 MX2_isBoat dX2_crew_35 lX2_54 kX2_isBoat vX2_isBoat sh6 (by decide) rfl (Nat.le_of_ble_eq_true rfl) vc ?_
      intro v7 h7 vc
      obtain ⟨hR7, vc⟩ := vc
      replace hR := hR7.trans hR
      refine go_if_eq 51 dX2_crew_38 rfl (fun q => ?_) (fun q => ?_)
      · replace vc := vc.1 q
        exact go_vret dX2_crew_51 rfl vc rfl (Nat.le_refl _) (Nat.le_refl _)
      · replace vc := vc.2 q
        refine go_aload_n (x := 6) dX2_crew_41 rfl ?_
        refine go_getR (x := 7) dX2_crew_42 f2_11 sh6 (fun _ _ => rfl) (rf6_0 hR) ?_
        refine go_bipush (v := 21) dX2_crew_45 rfl ?_
        refine go_iload_n (x := a1) dX2_crew_47 rfl ?_
        refine go_iadd dX2_crew_48 ?_
        refine go_iload_n (x := a2) dX2_crew_49 rfl ?_
        refine go_iast dX2_crew_50 sh7 vc.1 ?_
        have vc := vc.2
        show gg p l e s m args below meth c G (d + 1) MX2_crew Q 51 [some (.ref 6), some (.int a1), some (.int a2), some (.int (-1))] [] (sI h7 7 ((21 + a1) : Int32).toNatClampNeg a2)
        exact go_vret dX2_crew_51 rfl vc rfl (Nat.le_refl _) (Nat.le_refl _)
set_option maxRecDepth 20000 in
theorem wX2_move_0 {p : Program} {l : Launch} {e : Env} {s : State} {m : MethodId} {args : Array Value} {below : List Frame} {meth : Method} {c : Code} {G : gG} {d : Nat} {Q : Option Value → gH → Prop} {h : gH} {lk sp : Nat} {cd : Option Nat} {a1 : Int32} {a2 : Int32} (hR : h.2.2 = gRF lk sp cd) (hlk : lk = 30 ∨ lk = 67) (hsp : sp = 30 ∨ sp = 67)  (vc : gC l G d MX2_isBoat [.ref 6, .int a1] h (rI fun v1 h1 => h1.2.2 = (h).2.2 ∧ ((v1 = 0 → Q none h1) ∧ (¬ v1 = 0 → (vp_in ((3 + a1)) 67 ∧ Q none (sI h1 7 ((3 + a1) : Int32).toNatClampNeg a2)))))) : gg p l e s m args below meth c G (d + 1) MX2_move Q 0 [some (.ref 6), some (.int a1), some (.int a2)] [] h := by
  refine go_aload_n (x := 6) dX2_move_0 rfl ?_
  refine go_iload_n (x := a1) dX2_move_1 rfl ?_
  refine gvI1 MX2_isBoat dX2_move_2 lX2_54 kX2_isBoat vX2_isBoat sh6 (by decide) rfl (Nat.le_of_ble_eq_true rfl) vc ?_
  intro v1 h1 vc
  obtain ⟨hR1, vc⟩ := vc
  replace hR := hR1.trans hR
  refine go_if_eq 17 dX2_move_5 rfl (fun q => ?_) (fun q => ?_)
  · replace vc := vc.1 q
    exact go_vret dX2_move_17 rfl vc rfl (Nat.le_refl _) (Nat.le_refl _)
  · replace vc := vc.2 q
    refine go_aload_n (x := 6) dX2_move_8 rfl ?_
    refine go_getR (x := 7) dX2_move_9 f2_11 sh6 (fun _ _ => rfl) (rf6_0 hR) ?_
    refine go_iconst (v := 3) dX2_move_12 rfl ?_
    refine go_iload_n (x := a1) dX2_move_13 rfl ?_
    refine go_iadd dX2_move_14 ?_
    refine go_iload_n (x := a2) dX2_move_15 rfl ?_
    refine go_iast dX2_move_16 sh7 vc.1 ?_
    have vc := vc.2
    show gg p l e s m args below meth c G (d + 1) MX2_move Q 17 [some (.ref 6), some (.int a1), some (.int a2)] [] (sI h1 7 ((3 + a1) : Int32).toNatClampNeg a2)
    exact go_vret dX2_move_17 rfl vc rfl (Nat.le_refl _) (Nat.le_refl _)
set_option maxRecDepth 20000 in
theorem wX2_balk_0 {p : Program} {l : Launch} {e : Env} {s : State} {m : MethodId} {args : Array Value} {below : List Frame} {meth : Method} {c : Code} {G : gG} {d : Nat} {Q : Option Value → gH → Prop} {h : gH} {lk sp : Nat} {cd : Option Nat} {a1 : Int32} (hR : h.2.2 = gRF lk sp cd) (hlk : lk = 30 ∨ lk = 67) (hsp : sp = 30 ∨ sp = 67)  (vc : gC l G d MX2_isBoat [.ref 6, .int a1] h (rI fun v1 h1 => h1.2.2 = (h).2.2 ∧ ((v1 = 0 → Q none h1) ∧ (¬ v1 = 0 → (vp_in ((15 + a1)) 67 ∧ (vp_in ((15 + a1)) 67 ∧ Q none (sI h1 7 ((15 + a1) : Int32).toNatClampNeg (if ((h1.1 7 ((15 + a1) : Int32).toNatClampNeg) + 1) < 99 then ((h1.1 7 ((15 + a1) : Int32).toNatClampNeg) + 1) else 99)))))))) : gg p l e s m args below meth c G (d + 1) MX2_balk Q 0 [some (.ref 6), some (.int a1)] [] h := by
  refine go_aload_n (x := 6) dX2_balk_0 rfl ?_
  refine go_iload_n (x := a1) dX2_balk_1 rfl ?_
  refine gvI1 MX2_isBoat dX2_balk_2 lX2_54 kX2_isBoat vX2_isBoat sh6 (by decide) rfl (Nat.le_of_ble_eq_true rfl) vc ?_
  intro v1 h1 vc
  obtain ⟨hR1, vc⟩ := vc
  replace hR := hR1.trans hR
  refine go_if_eq 33 dX2_balk_5 rfl (fun q => ?_) (fun q => ?_)
  · replace vc := vc.1 q
    exact go_vret dX2_balk_33 rfl vc rfl (Nat.le_refl _) (Nat.le_refl _)
  · replace vc := vc.2 q
    refine go_aload_n (x := 6) dX2_balk_8 rfl ?_
    refine go_getR (x := 7) dX2_balk_9 f2_11 sh6 (fun _ _ => rfl) (rf6_0 hR) ?_
    refine go_bipush (v := 15) dX2_balk_12 rfl ?_
    refine go_iload_n (x := a1) dX2_balk_14 rfl ?_
    refine go_iadd dX2_balk_15 ?_
    refine go_bipush (v := 99) dX2_balk_16 rfl ?_
    refine go_aload_n (x := 6) dX2_balk_18 rfl ?_
    refine go_getR (x := 7) dX2_balk_19 f2_11 sh6 (fun _ _ => rfl) (rf6_0 hR) ?_
    refine go_bipush (v := 15) dX2_balk_22 rfl ?_
    refine go_iload_n (x := a1) dX2_balk_24 rfl ?_
    refine go_iadd dX2_balk_25 ?_
    refine go_iald' (v := (h1.1 7 ((15 + a1) : Int32).toNatClampNeg)) dX2_balk_26 sh7 vc.1 rfl ?_
    have vc := vc.2
    refine go_iconst (v := 1) dX2_balk_27 rfl ?_
    refine go_iadd dX2_balk_28 ?_
    refine go_min dX2_balk_29 lX2_36 (Nat.le_of_ble_eq_true rfl) ?_
    refine go_iast dX2_balk_32 sh7 vc.1 ?_
    have vc := vc.2
    show gg p l e s m args below meth c G (d + 1) MX2_balk Q 33 [some (.ref 6), some (.int a1)] [] (sI h1 7 ((15 + a1) : Int32).toNatClampNeg (if ((h1.1 7 ((15 + a1) : Int32).toNatClampNeg) + 1) < 99 then ((h1.1 7 ((15 + a1) : Int32).toNatClampNeg) + 1) else 99))
    exact go_vret dX2_balk_33 rfl vc rfl (Nat.le_refl _) (Nat.le_refl _)
set_option maxRecDepth 20000 in
theorem wX2_keep_0 {p : Program} {l : Launch} {e : Env} {s : State} {m : MethodId} {args : Array Value} {below : List Frame} {meth : Method} {c : Code} {G : gG} {d : Nat} {Q : Option Value → gH → Prop} {h : gH} {lk sp : Nat} {cd : Option Nat} {a1 : Int32} {a2 : Int32} {a3 : Int32} (hR : h.2.2 = gRF lk sp cd) (hlk : lk = 30 ∨ lk = 67) (hsp : sp = 30 ∨ sp = 67)  (vc : ((((h.1 7 2) - (h.1 7 2) / 40 * 40) < 0 → Q none h) ∧ (¬ ((h.1 7 2) - (h.1 7 2) / 40 * 40) < 0 → (vp_in ((27 + ((h.1 7 2) - (h.1 7 2) / 40 * 40))) 67 ∧ Q none (sI (sI h 7 ((27 + ((h.1 7 2) - (h.1 7 2) / 40 * 40)) : Int32).toNatClampNeg (((((h.1 7 0) <<< (10 &&& 31)) ||| (a1 <<< (7 &&& 31))) ||| (a2 <<< (1 &&& 31))) ||| a3)) 7 2 (((sI h 7 ((27 + ((h.1 7 2) - (h.1 7 2) / 40 * 40)) : Int32).toNatClampNeg (((((h.1 7 0) <<< (10 &&& 31)) ||| (a1 <<< (7 &&& 31))) ||| (a2 <<< (1 &&& 31))) ||| a3)).1 7 2) + 1)))))) : gg p l e s m args below meth c G d MX2_keep Q 0 [some (.ref 6), some (.int a1), some (.int a2), some (.int a3), none] [] h := by
  refine go_aload_n (x := 6) dX2_keep_0 rfl ?_
  refine go_getR (x := 7) dX2_keep_1 f2_11 sh6 (fun _ _ => rfl) (rf6_0 hR) ?_
  refine go_iconst (v := 2) dX2_keep_4 rfl ?_
  refine go_iald' (v := (h.1 7 2)) dX2_keep_5 sh7 (by unfold vp_in; decide) rfl ?_
  refine go_bipush (v := 40) dX2_keep_6 rfl ?_
  refine go_irem dX2_keep_8 (by decide) ?_
  refine go_istore dX2_keep_9 (Nat.le_of_ble_eq_true rfl) ?_
  show gg p l e s m args below meth c G d MX2_keep Q 11 [some (.ref 6), some (.int a1), some (.int a2), some (.int a3), some (.int ((h.1 7 2) - (h.1 7 2) / 40 * 40))] [] h
  refine go_iload (x := ((h.1 7 2) - (h.1 7 2) / 40 * 40)) dX2_keep_11 rfl ?_
  refine go_if_lt 56 dX2_keep_13 rfl (fun q => ?_) (fun q => ?_)
  · replace vc := vc.1 q
    exact go_vret dX2_keep_56 rfl vc rfl (Nat.le_refl _) (Nat.le_refl _)
  · replace vc := vc.2 q
    refine go_aload_n (x := 6) dX2_keep_16 rfl ?_
    refine go_getR (x := 7) dX2_keep_17 f2_11 sh6 (fun _ _ => rfl) (rf6_0 hR) ?_
    refine go_bipush (v := 27) dX2_keep_20 rfl ?_
    refine go_iload (x := ((h.1 7 2) - (h.1 7 2) / 40 * 40)) dX2_keep_22 rfl ?_
    refine go_iadd dX2_keep_24 ?_
    refine go_aload_n (x := 6) dX2_keep_25 rfl ?_
    refine go_getR (x := 7) dX2_keep_26 f2_11 sh6 (fun _ _ => rfl) (rf6_0 hR) ?_
    refine go_iconst (v := 0) dX2_keep_29 rfl ?_
    refine go_iald' (v := (h.1 7 0)) dX2_keep_30 sh7 (by unfold vp_in; decide) rfl ?_
    refine go_bipush (v := 10) dX2_keep_31 rfl ?_
    refine go_ishl dX2_keep_33 ?_
    refine go_iload_n (x := a1) dX2_keep_34 rfl ?_
    refine go_bipush (v := 7) dX2_keep_35 rfl ?_
    refine go_ishl dX2_keep_37 ?_
    refine go_ior dX2_keep_38 ?_
    refine go_iload_n (x := a2) dX2_keep_39 rfl ?_
    refine go_iconst (v := 1) dX2_keep_40 rfl ?_
    refine go_ishl dX2_keep_41 ?_
    refine go_ior dX2_keep_42 ?_
    refine go_iload_n (x := a3) dX2_keep_43 rfl ?_
    refine go_ior dX2_keep_44 ?_
    refine go_iast dX2_keep_45 sh7 vc.1 ?_
    have vc := vc.2
    show gg p l e s m args below meth c G d MX2_keep Q 46 [some (.ref 6), some (.int a1), some (.int a2), some (.int a3), some (.int ((h.1 7 2) - (h.1 7 2) / 40 * 40))] [] (sI h 7 ((27 + ((h.1 7 2) - (h.1 7 2) / 40 * 40)) : Int32).toNatClampNeg (((((h.1 7 0) <<< (10 &&& 31)) ||| (a1 <<< (7 &&& 31))) ||| (a2 <<< (1 &&& 31))) ||| a3))
    refine go_aload_n (x := 6) dX2_keep_46 rfl ?_
    refine go_getR (x := 7) dX2_keep_47 f2_11 sh6 (fun _ _ => rfl) (rf6_0 hR) ?_
    refine go_iconst (v := 2) dX2_keep_50 rfl ?_
    refine go_dup2 dX2_keep_51 rfl rfl ?_
    refine go_iald' (v := ((sI h 7 ((27 + ((h.1 7 2) - (h.1 7 2) / 40 * 40)) : Int32).toNatClampNeg (((((h.1 7 0) <<< (10 &&& 31)) ||| (a1 <<< (7 &&& 31))) ||| (a2 <<< (1 &&& 31))) ||| a3)).1 7 2)) dX2_keep_52 sh7 (by unfold vp_in; decide) rfl ?_
    refine go_iconst (v := 1) dX2_keep_53 rfl ?_
    refine go_iadd dX2_keep_54 ?_
    refine go_iast dX2_keep_55 sh7 (by unfold vp_in; decide) ?_
    exact go_vret dX2_keep_56 rfl vc rfl (Nat.le_refl _) (Nat.le_refl _)
