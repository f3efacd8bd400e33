set_option maxRecDepth 100000 in
def eX3_init_4 (h : gH) : gH := sL (sR (sR h 4 0 (some 1)) 4 1 none) 4 2 0
set_option maxHeartbeats 8000000 in
set_option maxRecDepth 100000 in
theorem cX3_init_4 {l : Launch} {G : gG} {d : Nat} {h : gH} {Q : Option Value → gH → Prop} (hd : 1 ≤ d) (vc : Q none (eX3_init_4 h)) : gCt l G d MX3_init (gSH.take 5) (gSH.take 5) 0 0 [.ref 4, .ref 1] h Q := by
  obtain ⟨d, rfl⟩ : ∃ d', d = d' + 1 := ⟨d - 1, by omega⟩
  refine gCt.ofI rfl rfl (by decide) (fun p e s m args below meth c hin => ?_)
  show Go p l e (gRm (d + 1) 0 0) s m args below meth c G MX3_init (gSH.take 5) 0 0 (gZ below args s G (gSH.take 5) 0 0 Q) 0 [some (.ref 4), some (.ref 1)] [] (h)
  refine go_aload_n (x := 4) dX3_init_0 rfl ?_
  refine go_objI dX3_init_1 lOX3_5 gO_i gO_c (Nat.le_add_left 1 d) (by show 0 + 12 ≤ 80 * (d + 1); omega) ?_
  refine go_aload_n (x := 4) dX3_init_4 rfl ?_
  refine go_aload_n (x := 1) dX3_init_5 rfl ?_
  refine go_putFR hin dX3_init_6 f3_11 (tk0 4 rfl sh4) (by first | exact Or.inl ⟨_, rfl⟩ | exact Or.inr ⟨_, rfl⟩) rfl rfl ?_
  refine go_aload_n (x := 4) dX3_init_9 rfl ?_
  refine go_null dX3_init_10 ?_
  refine go_putN dX3_init_11 f3_15 (tk0 4 rfl sh4) rfl rfl ?_
  refine go_aload_n (x := 4) dX3_init_14 rfl ?_
  refine go_lconst (v := 0) dX3_init_15 rfl ?_
  refine go_putL dX3_init_16 f3_19 (tk0 4 rfl sh4) rfl rfl ?_
  exact go_vret dX3_init_19 rfl vc rfl (Nat.le_of_ble_eq_true rfl) (Nat.le_of_ble_eq_true rfl)
set_option maxRecDepth 100000 in
def eX7_init_5 (h : gH) : gH := sR (sR h 5 0 (some 1)) 5 1 (some 4)
set_option maxHeartbeats 8000000 in
set_option maxRecDepth 100000 in
theorem cX7_init_5 {l : Launch} {G : gG} {d : Nat} {h : gH} {Q : Option Value → gH → Prop} (hd : 1 ≤ d) (vc : Q none (eX7_init_5 h)) : gCt l G d MX7_init (gSH.take 6) (gSH.take 6) 0 0 [.ref 5, .ref 1, .ref 4] h Q := by
  obtain ⟨d, rfl⟩ : ∃ d', d = d' + 1 := ⟨d - 1, by omega⟩
  refine gCt.ofI rfl rfl (by decide) (fun p e s m args below meth c hin => ?_)
  show Go p l e (gRm (d + 1) 0 0) s m args below meth c G MX7_init (gSH.take 6) 0 0 (gZ below args s G (gSH.take 6) 0 0 Q) 0 [some (.ref 5), some (.ref 1), some (.ref 4)] [] (h)
  refine go_aload_n (x := 5) dX7_init_0 rfl ?_
  refine go_objI dX7_init_1 lOX7_3 gO_i gO_c (Nat.le_add_left 1 d) (by show 0 + 12 ≤ 80 * (d + 1); omega) ?_
  refine go_aload_n (x := 5) dX7_init_4 rfl ?_
  refine go_aload_n (x := 1) dX7_init_5 rfl ?_
  refine go_putFR hin dX7_init_6 f7_9 (tk0 5 rfl sh5) (by first | exact Or.inl ⟨_, rfl⟩ | exact Or.inr ⟨_, rfl⟩) rfl rfl ?_
  refine go_aload_n (x := 5) dX7_init_9 rfl ?_
  refine go_aload_n (x := 4) dX7_init_10 rfl ?_
  refine go_putFR hin dX7_init_11 f7_15 (tk0 5 rfl sh5) (by first | exact Or.inl ⟨_, rfl⟩ | exact Or.inr ⟨_, rfl⟩) rfl rfl ?_
  exact go_vret dX7_init_14 rfl vc rfl (Nat.le_of_ble_eq_true rfl) (Nat.le_of_ble_eq_true rfl)
set_option maxRecDepth 100000 in
def eX2_init_6 (h : gH) : gH := sI (sI (sI (sR (sM (sR (sN h 7) 6 0 (some 7)) 8 20) 6 1 (some 8)) 6 2 0) 6 3 0) 6 4 0
set_option maxHeartbeats 8000000 in
set_option maxRecDepth 100000 in
theorem cX2_init_6 {l : Launch} {G : gG} {d : Nat} {h : gH} {Q : Option Value → gH → Prop} (hd : 1 ≤ d) (vc : Q none (eX2_init_6 h)) : gCt l G d MX2_init (gSH.take 7) (gSH.take 29) 22 1427 [.ref 6] h Q := by
  obtain ⟨d, rfl⟩ : ∃ d', d = d' + 1 := ⟨d - 1, by omega⟩
  refine gCt.ofI rfl rfl (by decide) (fun p e s m args below meth c hin => ?_)
  show Go p l e (gRm (d + 1) 22 1427) s m args below meth c G MX2_init (gSH.take 7) 0 0 (gZ below args s G (gSH.take 29) 22 1427 Q) 0 [some (.ref 6)] [] (h)
  refine go_aload_n (x := 6) dX2_init_0 rfl ?_
  refine go_objI dX2_init_1 lOX2_5 gO_i gO_c (Nat.le_add_left 1 d) (by show 0 + 12 ≤ 80 * (d + 1); omega) ?_
  refine go_aload_n (x := 6) dX2_init_4 rfl ?_
  refine go_bipush (v := 67) dX2_init_5 rfl ?_
  refine gt_newI sh7 dX2_init_7 rfl (by decide) (by decide) (Nat.le_of_ble_eq_true rfl) (Nat.le_of_ble_eq_true rfl) rfl ?_
  refine go_putFR hin dX2_init_9 f2_11 (tk0 6 rfl sh6) (by first | exact Or.inl ⟨_, rfl⟩ | exact Or.inr ⟨_, rfl⟩) rfl rfl ?_
  refine go_aload_n (x := 6) dX2_init_12 rfl ?_
  refine go_bipush (v := 20) dX2_init_13 rfl ?_
  refine go_bipush (v := 67) dX2_init_15 rfl ?_
  refine gt_mna dX2_init_17 clX2_15 rfl rfl (by decide) (by decide) (Nat.le_of_ble_eq_true rfl) (Nat.le_of_ble_eq_true rfl) ?_
  refine go_putFR hin dX2_init_21 f2_17 (tk0 6 rfl sh6) (by first | exact Or.inl ⟨_, rfl⟩ | exact Or.inr ⟨_, rfl⟩) rfl rfl ?_
  refine go_aload_n (x := 6) dX2_init_24 rfl ?_
  refine go_iconst (v := 0) dX2_init_25 rfl ?_
  refine go_putI dX2_init_26 f2_20 (tk0 6 rfl sh6) rfl rfl ?_
  refine go_aload_n (x := 6) dX2_init_29 rfl ?_
  refine go_iconst (v := 0) dX2_init_30 rfl ?_
  refine go_putI dX2_init_31 f2_24 (tk0 6 rfl sh6) rfl rfl ?_
  refine go_aload_n (x := 6) dX2_init_34 rfl ?_
  refine go_iconst (v := 0) dX2_init_35 rfl ?_
  refine go_putI dX2_init_36 f2_27 (tk0 6 rfl sh6) rfl rfl ?_
  exact go_vret dX2_init_39 rfl vc rfl (Nat.le_of_ble_eq_true rfl) (Nat.le_of_ble_eq_true rfl)
set_option maxRecDepth 100000 in
def eX0_init_41 (h : gH) : gH := sI (sR (sN (sR (sN (sR (sN h 42) 41 0 (some 42)) 43) 41 1 (some 43)) 44) 41 2 (some 44)) 41 3 0
set_option maxHeartbeats 8000000 in
set_option maxRecDepth 100000 in
theorem cX0_init_41 {l : Launch} {G : gG} {d : Nat} {h : gH} {Q : Option Value → gH → Prop} (hd : 1 ≤ d) (vc : Q none (eX0_init_41 h)) : gCt l G d MX0_init (gSH.take 42) (gSH.take 45) 3 1606 [.ref 41] h Q := by
  obtain ⟨d, rfl⟩ : ∃ d', d = d' + 1 := ⟨d - 1, by omega⟩
  refine gCt.ofI rfl rfl (by decide) (fun p e s m args below meth c hin => ?_)
  show Go p l e (gRm (d + 1) 3 1606) s m args below meth c G MX0_init (gSH.take 42) 0 0 (gZ below args s G (gSH.take 45) 3 1606 Q) 0 [some (.ref 41)] [] (h)
  refine go_aload_n (x := 41) dX0_init_0 rfl ?_
  refine go_objI dX0_init_1 lOX0_3 gO_i gO_c (Nat.le_add_left 1 d) (by show 0 + 12 ≤ 80 * (d + 1); omega) ?_
  refine go_aload_n (x := 41) dX0_init_4 rfl ?_
  refine go_sipush (v := 1600) dX0_init_5 rfl ?_
  refine gt_newI sh42 dX0_init_8 rfl (by decide) (by decide) (Nat.le_of_ble_eq_true rfl) (Nat.le_of_ble_eq_true rfl) rfl ?_
  refine go_putFR hin dX0_init_10 f0_9 (tk0 41 rfl sh41) (by first | exact Or.inl ⟨_, rfl⟩ | exact Or.inr ⟨_, rfl⟩) rfl rfl ?_
  refine go_aload_n (x := 41) dX0_init_13 rfl ?_
  refine go_iconst (v := 3) dX0_init_14 rfl ?_
  refine gt_newI sh43 dX0_init_15 rfl (by decide) (by decide) (Nat.le_of_ble_eq_true rfl) (Nat.le_of_ble_eq_true rfl) rfl ?_
  refine go_putFR hin dX0_init_17 f0_15 (tk0 41 rfl sh41) (by first | exact Or.inl ⟨_, rfl⟩ | exact Or.inr ⟨_, rfl⟩) rfl rfl ?_
  refine go_aload_n (x := 41) dX0_init_20 rfl ?_
  refine go_iconst (v := 3) dX0_init_21 rfl ?_
  refine gt_newI sh44 dX0_init_22 rfl (by decide) (by decide) (Nat.le_of_ble_eq_true rfl) (Nat.le_of_ble_eq_true rfl) rfl ?_
  refine go_putFR hin dX0_init_24 f0_18 (tk0 41 rfl sh41) (by first | exact Or.inl ⟨_, rfl⟩ | exact Or.inr ⟨_, rfl⟩) rfl rfl ?_
  refine go_aload_n (x := 41) dX0_init_27 rfl ?_
  refine go_iconst (v := 0) dX0_init_28 rfl ?_
  refine go_putI dX0_init_29 f0_21 (tk0 41 rfl sh41) rfl rfl ?_
  exact go_vret dX0_init_32 rfl vc rfl (Nat.le_of_ble_eq_true rfl) (Nat.le_of_ble_eq_true rfl)
set_option maxRecDepth 100000 in
def eX4_init_30 (h : gH) : gH := sI (sR (eX0_init_41 (sN (sR (sN (sR (sN (sR (sN (sR (sN (sR (sN (sR (sN (sR (sN (sR (sN (sR (sN (sR (sN h 31) 30 0 (some 31)) 32) 30 1 (some 32)) 33) 30 2 (some 33)) 34) 30 3 (some 34)) 35) 30 4 (some 35)) 36) 30 5 (some 36)) 37) 30 6 (some 37)) 38) 30 7 (some 38)) 39) 30 8 (some 39)) 40) 30 9 (some 40)) 41)) 30 10 (some 41)) 30 16 5
set_option maxHeartbeats 8000000 in
set_option maxRecDepth 100000 in
theorem cX4_init_30 {l : Launch} {G : gG} {d : Nat} {h : gH} {Q : Option Value → gH → Prop} (hd : 2 ≤ d) (vc : Q none (eX4_init_30 h)) : gCt l G d MX4_init (gSH.take 31) (gSH.take 45) 14 1792 [.ref 30] h Q := by
  obtain ⟨d, rfl⟩ : ∃ d', d = d' + 1 := ⟨d - 1, by omega⟩
  refine gCt.ofI rfl rfl (by decide) (fun p e s m args below meth c hin => ?_)
  show Go p l e (gRm (d + 1) 14 1792) s m args below meth c G MX4_init (gSH.take 31) 0 0 (gZ below args s G (gSH.take 45) 14 1792 Q) 0 [some (.ref 30)] [] (h)
  refine go_aload_n (x := 30) dX4_init_0 rfl ?_
  refine go_objI dX4_init_1 lOX4_3 gO_i gO_c (Nat.le_add_left 1 d) (by show 0 + 12 ≤ 80 * (d + 1); omega) ?_
  refine go_aload_n (x := 30) dX4_init_4 rfl ?_
  refine go_bipush (v := 48) dX4_init_5 rfl ?_
  refine gt_newI sh31 dX4_init_7 rfl (by decide) (by decide) (Nat.le_of_ble_eq_true rfl) (Nat.le_of_ble_eq_true rfl) rfl ?_
  refine go_putFR hin dX4_init_9 f4_9 (tk0 30 rfl sh30) (by first | exact Or.inl ⟨_, rfl⟩ | exact Or.inr ⟨_, rfl⟩) rfl rfl ?_
  refine go_aload_n (x := 30) dX4_init_12 rfl ?_
  refine go_bipush (v := 48) dX4_init_13 rfl ?_
  refine gt_newI sh32 dX4_init_15 rfl (by decide) (by decide) (Nat.le_of_ble_eq_true rfl) (Nat.le_of_ble_eq_true rfl) rfl ?_
  refine go_putFR hin dX4_init_17 f4_15 (tk0 30 rfl sh30) (by first | exact Or.inl ⟨_, rfl⟩ | exact Or.inr ⟨_, rfl⟩) rfl rfl ?_
  refine go_aload_n (x := 30) dX4_init_20 rfl ?_
  refine go_bipush (v := 6) dX4_init_21 rfl ?_
  refine gt_newI sh33 dX4_init_23 rfl (by decide) (by decide) (Nat.le_of_ble_eq_true rfl) (Nat.le_of_ble_eq_true rfl) rfl ?_
  refine go_putFR hin dX4_init_25 f4_18 (tk0 30 rfl sh30) (by first | exact Or.inl ⟨_, rfl⟩ | exact Or.inr ⟨_, rfl⟩) rfl rfl ?_
  refine go_aload_n (x := 30) dX4_init_28 rfl ?_
  refine go_bipush (v := 6) dX4_init_29 rfl ?_
  refine gt_newI sh34 dX4_init_31 rfl (by decide) (by decide) (Nat.le_of_ble_eq_true rfl) (Nat.le_of_ble_eq_true rfl) rfl ?_
  refine go_putFR hin dX4_init_33 f4_21 (tk0 30 rfl sh30) (by first | exact Or.inl ⟨_, rfl⟩ | exact Or.inr ⟨_, rfl⟩) rfl rfl ?_
  refine go_aload_n (x := 30) dX4_init_36 rfl ?_
  refine go_bipush (v := 6) dX4_init_37 rfl ?_
  refine gt_newI sh35 dX4_init_39 rfl (by decide) (by decide) (Nat.le_of_ble_eq_true rfl) (Nat.le_of_ble_eq_true rfl) rfl ?_
  refine go_putFR hin dX4_init_41 f4_24 (tk0 30 rfl sh30) (by first | exact Or.inl ⟨_, rfl⟩ | exact Or.inr ⟨_, rfl⟩) rfl rfl ?_
  refine go_aload_n (x := 30) dX4_init_44 rfl ?_
  refine go_bipush (v := 6) dX4_init_45 rfl ?_
  refine gt_newI sh36 dX4_init_47 rfl (by decide) (by decide) (Nat.le_of_ble_eq_true rfl) (Nat.le_of_ble_eq_true rfl) rfl ?_
  refine go_putFR hin dX4_init_49 f4_27 (tk0 30 rfl sh30) (by first | exact Or.inl ⟨_, rfl⟩ | exact Or.inr ⟨_, rfl⟩) rfl rfl ?_
  refine go_aload_n (x := 30) dX4_init_52 rfl ?_
  refine go_bipush (v := 6) dX4_init_53 rfl ?_
  refine gt_newI sh37 dX4_init_55 rfl (by decide) (by decide) (Nat.le_of_ble_eq_true rfl) (Nat.le_of_ble_eq_true rfl) rfl ?_
  refine go_putFR hin dX4_init_57 f4_30 (tk0 30 rfl sh30) (by first | exact Or.inl ⟨_, rfl⟩ | exact Or.inr ⟨_, rfl⟩) rfl rfl ?_
  refine go_aload_n (x := 30) dX4_init_60 rfl ?_
  refine go_bipush (v := 36) dX4_init_61 rfl ?_
  refine gt_newI sh38 dX4_init_63 rfl (by decide) (by decide) (Nat.le_of_ble_eq_true rfl) (Nat.le_of_ble_eq_true rfl) rfl ?_
  refine go_putFR hin dX4_init_65 f4_33 (tk0 30 rfl sh30) (by first | exact Or.inl ⟨_, rfl⟩ | exact Or.inr ⟨_, rfl⟩) rfl rfl ?_
  refine go_aload_n (x := 30) dX4_init_68 rfl ?_
  refine go_bipush (v := 10) dX4_init_69 rfl ?_
  refine gt_newI sh39 dX4_init_71 rfl (by decide) (by decide) (Nat.le_of_ble_eq_true rfl) (Nat.le_of_ble_eq_true rfl) rfl ?_
  refine go_putFR hin dX4_init_73 f4_36 (tk0 30 rfl sh30) (by first | exact Or.inl ⟨_, rfl⟩ | exact Or.inr ⟨_, rfl⟩) rfl rfl ?_
  refine go_aload_n (x := 30) dX4_init_76 rfl ?_
  refine go_bipush (v := 10) dX4_init_77 rfl ?_
  refine gt_newI sh40 dX4_init_79 rfl (by decide) (by decide) (Nat.le_of_ble_eq_true rfl) (Nat.le_of_ble_eq_true rfl) rfl ?_
  refine go_putFR hin dX4_init_81 f4_39 (tk0 30 rfl sh30) (by first | exact Or.inl ⟨_, rfl⟩ | exact Or.inr ⟨_, rfl⟩) rfl rfl ?_
  refine go_aload_n (x := 30) dX4_init_84 rfl ?_
  refine gt_new (ci := 0) sh41 dX4_init_85 clX4_42 in0 ini0 (by decide) (Nat.le_of_ble_eq_true rfl) (Nat.le_of_ble_eq_true rfl) rfl ?_
  refine go_dup dX4_init_88 rfl ?_
  refine go_callI (d := d) (mc := 3) (ms := 1606) (she := gSH.take 45) MX0_init [] dX4_init_89 lX4_44 kX0_init rfl rfl iX0_init rfl (Nat.le_of_ble_eq_true rfl) (Nat.le_refl _) (by show 80 * d + 59 ≤ 80 * (d + 1); omega) ⟨Nat.le_of_ble_eq_true rfl, Nat.le_of_ble_eq_true rfl⟩ rfl (cX0_init_41 (by omega) ?_)
  refine go_putFR hin dX4_init_92 f4_45 (tk0 30 rfl sh30) (by first | exact Or.inl ⟨_, rfl⟩ | exact Or.inr ⟨_, rfl⟩) rfl rfl ?_
  refine go_aload_n (x := 30) dX4_init_95 rfl ?_
  refine go_iconst (v := 5) dX4_init_96 rfl ?_
  refine go_putI dX4_init_97 f4_49 (tk0 30 rfl sh30) rfl rfl ?_
  exact go_vret dX4_init_100 rfl vc rfl (Nat.le_of_ble_eq_true rfl) (Nat.le_of_ble_eq_true rfl)
set_option maxRecDepth 100000 in
def eX6_init_45 (h : gH) : gH := sI (sR (sN (sR (sN (sR (sN h 46) 45 0 (some 46)) 47) 45 1 (some 47)) 48) 45 2 (some 48)) 45 3 0
set_option maxHeartbeats 8000000 in
set_option maxRecDepth 100000 in
theorem cX6_init_45 {l : Launch} {G : gG} {d : Nat} {h : gH} {Q : Option Value → gH → Prop} (hd : 1 ≤ d) (vc : Q none (eX6_init_45 h)) : gCt l G d MX6_init (gSH.take 46) (gSH.take 49) 3 152 [.ref 45] h Q := by
  obtain ⟨d, rfl⟩ : ∃ d', d = d' + 1 := ⟨d - 1, by omega⟩
  refine gCt.ofI rfl rfl (by decide) (fun p e s m args below meth c hin => ?_)
  show Go p l e (gRm (d + 1) 3 152) s m args below meth c G MX6_init (gSH.take 46) 0 0 (gZ below args s G (gSH.take 49) 3 152 Q) 0 [some (.ref 45)] [] (h)
  refine go_aload_n (x := 45) dX6_init_0 rfl ?_
  refine go_objI dX6_init_1 lOX6_3 gO_i gO_c (Nat.le_add_left 1 d) (by show 0 + 12 ≤ 80 * (d + 1); omega) ?_
  refine go_aload_n (x := 45) dX6_init_4 rfl ?_
  refine go_bipush (v := 40) dX6_init_5 rfl ?_
  refine gt_newI sh46 dX6_init_7 rfl (by decide) (by decide) (Nat.le_of_ble_eq_true rfl) (Nat.le_of_ble_eq_true rfl) rfl ?_
  refine go_putFR hin dX6_init_9 f6_9 (tk0 45 rfl sh45) (by first | exact Or.inl ⟨_, rfl⟩ | exact Or.inr ⟨_, rfl⟩) rfl rfl ?_
  refine go_aload_n (x := 45) dX6_init_12 rfl ?_
  refine go_bipush (v := 48) dX6_init_13 rfl ?_
  refine gt_newI sh47 dX6_init_15 rfl (by decide) (by decide) (Nat.le_of_ble_eq_true rfl) (Nat.le_of_ble_eq_true rfl) rfl ?_
  refine go_putFR hin dX6_init_17 f6_15 (tk0 45 rfl sh45) (by first | exact Or.inl ⟨_, rfl⟩ | exact Or.inr ⟨_, rfl⟩) rfl rfl ?_
  refine go_aload_n (x := 45) dX6_init_20 rfl ?_
  refine go_bipush (v := 64) dX6_init_21 rfl ?_
  refine gt_newI sh48 dX6_init_23 rfl (by decide) (by decide) (Nat.le_of_ble_eq_true rfl) (Nat.le_of_ble_eq_true rfl) rfl ?_
  refine go_putFR hin dX6_init_25 f6_18 (tk0 45 rfl sh45) (by first | exact Or.inl ⟨_, rfl⟩ | exact Or.inr ⟨_, rfl⟩) rfl rfl ?_
  refine go_aload_n (x := 45) dX6_init_28 rfl ?_
  refine go_iconst (v := 0) dX6_init_29 rfl ?_
  refine go_putI dX6_init_30 f6_21 (tk0 45 rfl sh45) rfl rfl ?_
  exact go_vret dX6_init_33 rfl vc rfl (Nat.le_of_ble_eq_true rfl) (Nat.le_of_ble_eq_true rfl)
set_option maxRecDepth 100000 in
def eX9_init_29 (h : gH) : gH := sR (sR (sR (eX6_init_45 (sN h 45)) 29 1 (some 45)) 29 2 (some 30)) 29 0 (some 6)
set_option maxHeartbeats 8000000 in
set_option maxRecDepth 100000 in
theorem cX9_init_29 {l : Launch} {G : gG} {d : Nat} {h : gH} {Q : Option Value → gH → Prop} (hd : 2 ≤ d) (vc : Q none (eX9_init_29 h)) : gCt l G d MX9_init (gSH.take 45) (gSH.take 49) 4 156 [.ref 29, .ref 30, .ref 6] h Q := by
  obtain ⟨d, rfl⟩ : ∃ d', d = d' + 1 := ⟨d - 1, by omega⟩
  refine gCt.ofI rfl rfl (by decide) (fun p e s m args below meth c hin => ?_)
  show Go p l e (gRm (d + 1) 4 156) s m args below meth c G MX9_init (gSH.take 45) 0 0 (gZ below args s G (gSH.take 49) 4 156 Q) 0 [some (.ref 29), some (.ref 30), some (.ref 6)] [] (h)
  refine go_aload_n (x := 29) dX9_init_0 rfl ?_
  refine go_objI dX9_init_1 lOX9_3 gO_i gO_c (Nat.le_add_left 1 d) (by show 0 + 12 ≤ 80 * (d + 1); omega) ?_
  refine go_aload_n (x := 29) dX9_init_4 rfl ?_
  refine gt_new (ci := 6) sh45 dX9_init_5 clX9_9 in6 ini6 (by decide) (Nat.le_of_ble_eq_true rfl) (Nat.le_of_ble_eq_true rfl) rfl ?_
  refine go_dup dX9_init_8 rfl ?_
  refine go_callI (d := d) (mc := 3) (ms := 152) (she := gSH.take 49) MX6_init [] dX9_init_9 lX9_11 kX6_init rfl rfl iX6_init rfl (Nat.le_of_ble_eq_true rfl) (Nat.le_refl _) (by show 80 * d + 59 ≤ 80 * (d + 1); omega) ⟨Nat.le_of_ble_eq_true rfl, Nat.le_of_ble_eq_true rfl⟩ rfl (cX6_init_45 (by omega) ?_)
  refine go_putFR hin dX9_init_12 f9_12 (tk0 29 rfl sh29) (by first | exact Or.inl ⟨_, rfl⟩ | exact Or.inr ⟨_, rfl⟩) rfl rfl ?_
  refine go_aload_n (x := 29) dX9_init_15 rfl ?_
  refine go_aload_n (x := 30) dX9_init_16 rfl ?_
  refine go_putR dX9_init_17 f9_18 (tk0 29 rfl sh29) rfl rfl ?_
  refine go_aload_n (x := 29) dX9_init_20 rfl ?_
  refine go_aload_n (x := 6) dX9_init_21 rfl ?_
  refine go_putFR hin dX9_init_22 f9_22 (tk0 29 rfl sh29) (by first | exact Or.inl ⟨_, rfl⟩ | exact Or.inr ⟨_, rfl⟩) rfl rfl ?_
  exact go_vret dX9_init_25 rfl vc rfl (Nat.le_of_ble_eq_true rfl) (Nat.le_of_ble_eq_true rfl)
set_option maxRecDepth 100000 in
def eX10_init_49 (h : gH) : gH := sI (sR (sR (sN (sR (sN (sR (sN h 50) 49 1 (some 50)) 51) 49 2 (some 51)) 52) 49 3 (some 52)) 49 0 (some 29)) 49 4 (-1)
set_option maxHeartbeats 8000000 in
set_option maxRecDepth 100000 in
theorem cX10_init_49 {l : Launch} {G : gG} {d : Nat} {h : gH} {Q : Option Value → gH → Prop} (hd : 1 ≤ d) (vc : Q none (eX10_init_49 h)) : gCt l G d MX10_init (gSH.take 50) (gSH.take 53) 3 144 [.ref 49, .ref 29] h Q := by
  obtain ⟨d, rfl⟩ : ∃ d', d = d' + 1 := ⟨d - 1, by omega⟩
  refine gCt.ofI rfl rfl (by decide) (fun p e s m args below meth c hin => ?_)
  show Go p l e (gRm (d + 1) 3 144) s m args below meth c G MX10_init (gSH.take 50) 0 0 (gZ below args s G (gSH.take 53) 3 144 Q) 0 [some (.ref 49), some (.ref 29)] [] (h)
  refine go_aload_n (x := 49) dX10_init_0 rfl ?_
  refine go_objI dX10_init_1 lOX10_3 gO_i gO_c (Nat.le_add_left 1 d) (by show 0 + 12 ≤ 80 * (d + 1); omega) ?_
  refine go_aload_n (x := 49) dX10_init_4 rfl ?_
  refine go_bipush (v := 48) dX10_init_5 rfl ?_
  refine gt_newI sh50 dX10_init_7 rfl (by decide) (by decide) (Nat.le_of_ble_eq_true rfl) (Nat.le_of_ble_eq_true rfl) rfl ?_
  refine go_putFR hin dX10_init_9 f10_9 (tk0 49 rfl sh49) (by first | exact Or.inl ⟨_, rfl⟩ | exact Or.inr ⟨_, rfl⟩) rfl rfl ?_
  refine go_aload_n (x := 49) dX10_init_12 rfl ?_
  refine go_bipush (v := 48) dX10_init_13 rfl ?_
  refine gt_newI sh51 dX10_init_15 rfl (by decide) (by decide) (Nat.le_of_ble_eq_true rfl) (Nat.le_of_ble_eq_true rfl) rfl ?_
  refine go_putFR hin dX10_init_17 f10_15 (tk0 49 rfl sh49) (by first | exact Or.inl ⟨_, rfl⟩ | exact Or.inr ⟨_, rfl⟩) rfl rfl ?_
  refine go_aload_n (x := 49) dX10_init_20 rfl ?_
  refine go_bipush (v := 48) dX10_init_21 rfl ?_
  refine gt_newI sh52 dX10_init_23 rfl (by decide) (by decide) (Nat.le_of_ble_eq_true rfl) (Nat.le_of_ble_eq_true rfl) rfl ?_
  refine go_putFR hin dX10_init_25 f10_18 (tk0 49 rfl sh49) (by first | exact Or.inl ⟨_, rfl⟩ | exact Or.inr ⟨_, rfl⟩) rfl rfl ?_
  refine go_aload_n (x := 49) dX10_init_28 rfl ?_
  refine go_aload_n (x := 29) dX10_init_29 rfl ?_
  refine go_putFR hin dX10_init_30 f10_21 (tk0 49 rfl sh49) (by first | exact Or.inl ⟨_, rfl⟩ | exact Or.inr ⟨_, rfl⟩) rfl rfl ?_
  refine go_aload_n (x := 49) dX10_init_33 rfl ?_
  refine go_iconst (v := (-1)) dX10_init_34 rfl ?_
  refine go_putI dX10_init_35 f10_25 (tk0 49 rfl sh49) rfl rfl ?_
  exact go_vret dX10_init_38 rfl vc rfl (Nat.le_of_ble_eq_true rfl) (Nat.le_of_ble_eq_true rfl)
set_option maxRecDepth 100000 in
def eX1_init_53 (h : gH) : gH := sI (sI (sR (sR (sN (sR (sN (sR (sN (sR (sN h 54) 53 1 (some 54)) 55) 53 2 (some 55)) 56) 53 5 (some 56)) 57) 53 6 (some 57)) 53 0 (some 29)) 53 3 0) 53 4 (-1)
set_option maxHeartbeats 8000000 in
set_option maxRecDepth 100000 in
theorem cX1_init_53 {l : Launch} {G : gG} {d : Nat} {h : gH} {Q : Option Value → gH → Prop} (hd : 1 ≤ d) (vc : Q none (eX1_init_53 h)) : gCt l G d MX1_init (gSH.take 54) (gSH.take 58) 4 24 [.ref 53, .ref 29] h Q := by
  obtain ⟨d, rfl⟩ : ∃ d', d = d' + 1 := ⟨d - 1, by omega⟩
  refine gCt.ofI rfl rfl (by decide) (fun p e s m args below meth c hin => ?_)
  show Go p l e (gRm (d + 1) 4 24) s m args below meth c G MX1_init (gSH.take 54) 0 0 (gZ below args s G (gSH.take 58) 4 24 Q) 0 [some (.ref 53), some (.ref 29)] [] (h)
  refine go_aload_n (x := 53) dX1_init_0 rfl ?_
  refine go_objI dX1_init_1 lOX1_3 gO_i gO_c (Nat.le_add_left 1 d) (by show 0 + 12 ≤ 80 * (d + 1); omega) ?_
  refine go_aload_n (x := 53) dX1_init_4 rfl ?_
  refine go_bipush (v := 6) dX1_init_5 rfl ?_
  refine gt_newI sh54 dX1_init_7 rfl (by decide) (by decide) (Nat.le_of_ble_eq_true rfl) (Nat.le_of_ble_eq_true rfl) rfl ?_
  refine go_putFR hin dX1_init_9 f1_9 (tk0 53 rfl sh53) (by first | exact Or.inl ⟨_, rfl⟩ | exact Or.inr ⟨_, rfl⟩) rfl rfl ?_
  refine go_aload_n (x := 53) dX1_init_12 rfl ?_
  refine go_bipush (v := 6) dX1_init_13 rfl ?_
  refine gt_newI sh55 dX1_init_15 rfl (by decide) (by decide) (Nat.le_of_ble_eq_true rfl) (Nat.le_of_ble_eq_true rfl) rfl ?_
  refine go_putFR hin dX1_init_17 f1_15 (tk0 53 rfl sh53) (by first | exact Or.inl ⟨_, rfl⟩ | exact Or.inr ⟨_, rfl⟩) rfl rfl ?_
  refine go_aload_n (x := 53) dX1_init_20 rfl ?_
  refine go_bipush (v := 6) dX1_init_21 rfl ?_
  refine gt_newI sh56 dX1_init_23 rfl (by decide) (by decide) (Nat.le_of_ble_eq_true rfl) (Nat.le_of_ble_eq_true rfl) rfl ?_
  refine go_putFR hin dX1_init_25 f1_18 (tk0 53 rfl sh53) (by first | exact Or.inl ⟨_, rfl⟩ | exact Or.inr ⟨_, rfl⟩) rfl rfl ?_
  refine go_aload_n (x := 53) dX1_init_28 rfl ?_
  refine go_bipush (v := 6) dX1_init_29 rfl ?_
  refine gt_newI sh57 dX1_init_31 rfl (by decide) (by decide) (Nat.le_of_ble_eq_true rfl) (Nat.le_of_ble_eq_true rfl) rfl ?_
  refine go_putFR hin dX1_init_33 f1_21 (tk0 53 rfl sh53) (by first | exact Or.inl ⟨_, rfl⟩ | exact Or.inr ⟨_, rfl⟩) rfl rfl ?_
  refine go_aload_n (x := 53) dX1_init_36 rfl ?_
  refine go_aload_n (x := 29) dX1_init_37 rfl ?_
  refine go_putFR hin dX1_init_38 f1_24 (tk0 53 rfl sh53) (by first | exact Or.inl ⟨_, rfl⟩ | exact Or.inr ⟨_, rfl⟩) rfl rfl ?_
  refine go_aload_n (x := 53) dX1_init_41 rfl ?_
  refine go_iconst (v := 0) dX1_init_42 rfl ?_
  refine go_putI dX1_init_43 f1_28 (tk0 53 rfl sh53) rfl rfl ?_
  refine go_aload_n (x := 53) dX1_init_46 rfl ?_
  refine go_iconst (v := (-1)) dX1_init_47 rfl ?_
  refine go_putI dX1_init_48 f1_32 (tk0 53 rfl sh53) rfl rfl ?_
  exact go_vret dX1_init_51 rfl vc rfl (Nat.le_of_ble_eq_true rfl) (Nat.le_of_ble_eq_true rfl)
set_option maxRecDepth 100000 in
def eX8_init_58 (h : gH) : gH := sI (sR (sR (sN (sR (sN h 59) 58 1 (some 59)) 60) 58 2 (some 60)) 58 0 (some 29)) 58 4 0
set_option maxHeartbeats 8000000 in
set_option maxRecDepth 100000 in
theorem cX8_init_58 {l : Launch} {G : gG} {d : Nat} {h : gH} {Q : Option Value → gH → Prop} (hd : 1 ≤ d) (vc : Q none (eX8_init_58 h)) : gCt l G d MX8_init (gSH.take 59) (gSH.take 61) 2 40 [.ref 58, .ref 29] h Q := by
  obtain ⟨d, rfl⟩ : ∃ d', d = d' + 1 := ⟨d - 1, by omega⟩
  refine gCt.ofI rfl rfl (by decide) (fun p e s m args below meth c hin => ?_)
  show Go p l e (gRm (d + 1) 2 40) s m args below meth c G MX8_init (gSH.take 59) 0 0 (gZ below args s G (gSH.take 61) 2 40 Q) 0 [some (.ref 58), some (.ref 29)] [] (h)
  refine go_aload_n (x := 58) dX8_init_0 rfl ?_
  refine go_objI dX8_init_1 lOX8_3 gO_i gO_c (Nat.le_add_left 1 d) (by show 0 + 12 ≤ 80 * (d + 1); omega) ?_
  refine go_aload_n (x := 58) dX8_init_4 rfl ?_
  refine go_bipush (v := 20) dX8_init_5 rfl ?_
  refine gt_newI sh59 dX8_init_7 rfl (by decide) (by decide) (Nat.le_of_ble_eq_true rfl) (Nat.le_of_ble_eq_true rfl) rfl ?_
  refine go_putFR hin dX8_init_9 f8_9 (tk0 58 rfl sh58) (by first | exact Or.inl ⟨_, rfl⟩ | exact Or.inr ⟨_, rfl⟩) rfl rfl ?_
  refine go_aload_n (x := 58) dX8_init_12 rfl ?_
  refine go_bipush (v := 20) dX8_init_13 rfl ?_
  refine gt_newI sh60 dX8_init_15 rfl (by decide) (by decide) (Nat.le_of_ble_eq_true rfl) (Nat.le_of_ble_eq_true rfl) rfl ?_
  refine go_putFR hin dX8_init_17 f8_15 (tk0 58 rfl sh58) (by first | exact Or.inl ⟨_, rfl⟩ | exact Or.inr ⟨_, rfl⟩) rfl rfl ?_
  refine go_aload_n (x := 58) dX8_init_20 rfl ?_
  refine go_aload_n (x := 29) dX8_init_21 rfl ?_
  refine go_putFR hin dX8_init_22 f8_18 (tk0 58 rfl sh58) (by first | exact Or.inl ⟨_, rfl⟩ | exact Or.inr ⟨_, rfl⟩) rfl rfl ?_
  refine go_aload_n (x := 58) dX8_init_25 rfl ?_
  refine go_iconst (v := 0) dX8_init_26 rfl ?_
  refine go_putI dX8_init_27 f8_22 (tk0 58 rfl sh58) rfl rfl ?_
  exact go_vret dX8_init_30 rfl vc rfl (Nat.le_of_ble_eq_true rfl) (Nat.le_of_ble_eq_true rfl)
set_option maxRecDepth 100000 in
def eX0_init_61 (h : gH) : gH := sI (sR (sN (sR (sN (sR (sN h 62) 61 0 (some 62)) 63) 61 1 (some 63)) 64) 61 2 (some 64)) 61 3 0
set_option maxHeartbeats 8000000 in
set_option maxRecDepth 100000 in
theorem cX0_init_61 {l : Launch} {G : gG} {d : Nat} {h : gH} {Q : Option Value → gH → Prop} (hd : 1 ≤ d) (vc : Q none (eX0_init_61 h)) : gCt l G d MX0_init (gSH.take 62) (gSH.take 65) 3 1606 [.ref 61] h Q := by
  obtain ⟨d, rfl⟩ : ∃ d', d = d' + 1 := ⟨d - 1, by omega⟩
  refine gCt.ofI rfl rfl (by decide) (fun p e s m args below meth c hin => ?_)
  show Go p l e (gRm (d + 1) 3 1606) s m args below meth c G MX0_init (gSH.take 62) 0 0 (gZ below args s G (gSH.take 65) 3 1606 Q) 0 [some (.ref 61)] [] (h)
  refine go_aload_n (x := 61) dX0_init_0 rfl ?_
  refine go_objI dX0_init_1 lOX0_3 gO_i gO_c (Nat.le_add_left 1 d) (by show 0 + 12 ≤ 80 * (d + 1); omega) ?_
  refine go_aload_n (x := 61) dX0_init_4 rfl ?_
  refine go_sipush (v := 1600) dX0_init_5 rfl ?_
  refine gt_newI sh62 dX0_init_8 rfl (by decide) (by decide) (Nat.le_of_ble_eq_true rfl) (Nat.le_of_ble_eq_true rfl) rfl ?_
  refine go_putFR hin dX0_init_10 f0_9 (tk0 61 rfl sh61) (by first | exact Or.inl ⟨_, rfl⟩ | exact Or.inr ⟨_, rfl⟩) rfl rfl ?_
  refine go_aload_n (x := 61) dX0_init_13 rfl ?_
  refine go_iconst (v := 3) dX0_init_14 rfl ?_
  refine gt_newI sh63 dX0_init_15 rfl (by decide) (by decide) (Nat.le_of_ble_eq_true rfl) (Nat.le_of_ble_eq_true rfl) rfl ?_
  refine go_putFR hin dX0_init_17 f0_15 (tk0 61 rfl sh61) (by first | exact Or.inl ⟨_, rfl⟩ | exact Or.inr ⟨_, rfl⟩) rfl rfl ?_
  refine go_aload_n (x := 61) dX0_init_20 rfl ?_
  refine go_iconst (v := 3) dX0_init_21 rfl ?_
  refine gt_newI sh64 dX0_init_22 rfl (by decide) (by decide) (Nat.le_of_ble_eq_true rfl) (Nat.le_of_ble_eq_true rfl) rfl ?_
  refine go_putFR hin dX0_init_24 f0_18 (tk0 61 rfl sh61) (by first | exact Or.inl ⟨_, rfl⟩ | exact Or.inr ⟨_, rfl⟩) rfl rfl ?_
  refine go_aload_n (x := 61) dX0_init_27 rfl ?_
  refine go_iconst (v := 0) dX0_init_28 rfl ?_
  refine go_putI dX0_init_29 f0_21 (tk0 61 rfl sh61) rfl rfl ?_
  exact go_vret dX0_init_32 rfl vc rfl (Nat.le_of_ble_eq_true rfl) (Nat.le_of_ble_eq_true rfl)
set_option maxRecDepth 100000 in
def eX0_init_78 (h : gH) : gH := sI (sR (sN (sR (sN (sR (sN h 79) 78 0 (some 79)) 80) 78 1 (some 80)) 81) 78 2 (some 81)) 78 3 0
set_option maxHeartbeats 8000000 in
set_option maxRecDepth 100000 in
theorem cX0_init_78 {l : Launch} {G : gG} {d : Nat} {h : gH} {Q : Option Value → gH → Prop} (hd : 1 ≤ d) (vc : Q none (eX0_init_78 h)) : gCt l G d MX0_init (gSH.take 79) (gSH.take 82) 3 1606 [.ref 78] h Q := by
  obtain ⟨d, rfl⟩ : ∃ d', d = d' + 1 := ⟨d - 1, by omega⟩
  refine gCt.ofI rfl rfl (by decide) (fun p e s m args below meth c hin => ?_)
  show Go p l e (gRm (d + 1) 3 1606) s m args below meth c G MX0_init (gSH.take 79) 0 0 (gZ below args s G (gSH.take 82) 3 1606 Q) 0 [some (.ref 78)] [] (h)
  refine go_aload_n (x := 78) dX0_init_0 rfl ?_
  refine go_objI dX0_init_1 lOX0_3 gO_i gO_c (Nat.le_add_left 1 d) (by show 0 + 12 ≤ 80 * (d + 1); omega) ?_
  refine go_aload_n (x := 78) dX0_init_4 rfl ?_
  refine go_sipush (v := 1600) dX0_init_5 rfl ?_
  refine gt_newI sh79 dX0_init_8 rfl (by decide) (by decide) (Nat.le_of_ble_eq_true rfl) (Nat.le_of_ble_eq_true rfl) rfl ?_
  refine go_putFR hin dX0_init_10 f0_9 (tk0 78 rfl sh78) (by first | exact Or.inl ⟨_, rfl⟩ | exact Or.inr ⟨_, rfl⟩) rfl rfl ?_
  refine go_aload_n (x := 78) dX0_init_13 rfl ?_
  refine go_iconst (v := 3) dX0_init_14 rfl ?_
  refine gt_newI sh80 dX0_init_15 rfl (by decide) (by decide) (Nat.le_of_ble_eq_true rfl) (Nat.le_of_ble_eq_true rfl) rfl ?_
  refine go_putFR hin dX0_init_17 f0_15 (tk0 78 rfl sh78) (by first | exact Or.inl ⟨_, rfl⟩ | exact Or.inr ⟨_, rfl⟩) rfl rfl ?_
  refine go_aload_n (x := 78) dX0_init_20 rfl ?_
  refine go_iconst (v := 3) dX0_init_21 rfl ?_
  refine gt_newI sh81 dX0_init_22 rfl (by decide) (by decide) (Nat.le_of_ble_eq_true rfl) (Nat.le_of_ble_eq_true rfl) rfl ?_
  refine go_putFR hin dX0_init_24 f0_18 (tk0 78 rfl sh78) (by first | exact Or.inl ⟨_, rfl⟩ | exact Or.inr ⟨_, rfl⟩) rfl rfl ?_
  refine go_aload_n (x := 78) dX0_init_27 rfl ?_
  refine go_iconst (v := 0) dX0_init_28 rfl ?_
  refine go_putI dX0_init_29 f0_21 (tk0 78 rfl sh78) rfl rfl ?_
  exact go_vret dX0_init_32 rfl vc rfl (Nat.le_of_ble_eq_true rfl) (Nat.le_of_ble_eq_true rfl)
set_option maxRecDepth 100000 in
def eX4_init_67 (h : gH) : gH := sI (sR (eX0_init_78 (sN (sR (sN (sR (sN (sR (sN (sR (sN (sR (sN (sR (sN (sR (sN (sR (sN (sR (sN (sR (sN h 68) 67 0 (some 68)) 69) 67 1 (some 69)) 70) 67 2 (some 70)) 71) 67 3 (some 71)) 72) 67 4 (some 72)) 73) 67 5 (some 73)) 74) 67 6 (some 74)) 75) 67 7 (some 75)) 76) 67 8 (some 76)) 77) 67 9 (some 77)) 78)) 67 10 (some 78)) 67 16 5
set_option maxHeartbeats 8000000 in
set_option maxRecDepth 100000 in
theorem cX4_init_67 {l : Launch} {G : gG} {d : Nat} {h : gH} {Q : Option Value → gH → Prop} (hd : 2 ≤ d) (vc : Q none (eX4_init_67 h)) : gCt l G d MX4_init (gSH.take 68) (gSH.take 82) 14 1792 [.ref 67] h Q := by
  obtain ⟨d, rfl⟩ : ∃ d', d = d' + 1 := ⟨d - 1, by omega⟩
  refine gCt.ofI rfl rfl (by decide) (fun p e s m args below meth c hin => ?_)
  show Go p l e (gRm (d + 1) 14 1792) s m args below meth c G MX4_init (gSH.take 68) 0 0 (gZ below args s G (gSH.take 82) 14 1792 Q) 0 [some (.ref 67)] [] (h)
  refine go_aload_n (x := 67) dX4_init_0 rfl ?_
  refine go_objI dX4_init_1 lOX4_3 gO_i gO_c (Nat.le_add_left 1 d) (by show 0 + 12 ≤ 80 * (d + 1); omega) ?_
  refine go_aload_n (x := 67) dX4_init_4 rfl ?_
  refine go_bipush (v := 48) dX4_init_5 rfl ?_
  refine gt_newI sh68 dX4_init_7 rfl (by decide) (by decide) (Nat.le_of_ble_eq_true rfl) (Nat.le_of_ble_eq_true rfl) rfl ?_
  refine go_putFR hin dX4_init_9 f4_9 (tk0 67 rfl sh67) (by first | exact Or.inl ⟨_, rfl⟩ | exact Or.inr ⟨_, rfl⟩) rfl rfl ?_
  refine go_aload_n (x := 67) dX4_init_12 rfl ?_
  refine go_bipush (v := 48) dX4_init_13 rfl ?_
  refine gt_newI sh69 dX4_init_15 rfl (by decide) (by decide) (Nat.le_of_ble_eq_true rfl) (Nat.le_of_ble_eq_true rfl) rfl ?_
  refine go_putFR hin dX4_init_17 f4_15 (tk0 67 rfl sh67) (by first | exact Or.inl ⟨_, rfl⟩ | exact Or.inr ⟨_, rfl⟩) rfl rfl ?_
  refine go_aload_n (x := 67) dX4_init_20 rfl ?_
  refine go_bipush (v := 6) dX4_init_21 rfl ?_
  refine gt_newI sh70 dX4_init_23 rfl (by decide) (by decide) (Nat.le_of_ble_eq_true rfl) (Nat.le_of_ble_eq_true rfl) rfl ?_
  refine go_putFR hin dX4_init_25 f4_18 (tk0 67 rfl sh67) (by first | exact Or.inl ⟨_, rfl⟩ | exact Or.inr ⟨_, rfl⟩) rfl rfl ?_
  refine go_aload_n (x := 67) dX4_init_28 rfl ?_
  refine go_bipush (v := 6) dX4_init_29 rfl ?_
  refine gt_newI sh71 dX4_init_31 rfl (by decide) (by decide) (Nat.le_of_ble_eq_true rfl) (Nat.le_of_ble_eq_true rfl) rfl ?_
  refine go_putFR hin dX4_init_33 f4_21 (tk0 67 rfl sh67) (by first | exact Or.inl ⟨_, rfl⟩ | exact Or.inr ⟨_, rfl⟩) rfl rfl ?_
  refine go_aload_n (x := 67) dX4_init_36 rfl ?_
  refine go_bipush (v := 6) dX4_init_37 rfl ?_
  refine gt_newI sh72 dX4_init_39 rfl (by decide) (by decide) (Nat.le_of_ble_eq_true rfl) (Nat.le_of_ble_eq_true rfl) rfl ?_
  refine go_putFR hin dX4_init_41 f4_24 (tk0 67 rfl sh67) (by first | exact Or.inl ⟨_, rfl⟩ | exact Or.inr ⟨_, rfl⟩) rfl rfl ?_
  refine go_aload_n (x := 67) dX4_init_44 rfl ?_
  refine go_bipush (v := 6) dX4_init_45 rfl ?_
  refine gt_newI sh73 dX4_init_47 rfl (by decide) (by decide) (Nat.le_of_ble_eq_true rfl) (Nat.le_of_ble_eq_true rfl) rfl ?_
  refine go_putFR hin dX4_init_49 f4_27 (tk0 67 rfl sh67) (by first | exact Or.inl ⟨_, rfl⟩ | exact Or.inr ⟨_, rfl⟩) rfl rfl ?_
  refine go_aload_n (x := 67) dX4_init_52 rfl ?_
  refine go_bipush (v := 6) dX4_init_53 rfl ?_
  refine gt_newI sh74 dX4_init_55 rfl (by decide) (by decide) (Nat.le_of_ble_eq_true rfl) (Nat.le_of_ble_eq_true rfl) rfl ?_
  refine go_putFR hin dX4_init_57 f4_30 (tk0 67 rfl sh67) (by first | exact Or.inl ⟨_, rfl⟩ | exact Or.inr ⟨_, rfl⟩) rfl rfl ?_
  refine go_aload_n (x := 67) dX4_init_60 rfl ?_
  refine go_bipush (v := 36) dX4_init_61 rfl ?_
  refine gt_newI sh75 dX4_init_63 rfl (by decide) (by decide) (Nat.le_of_ble_eq_true rfl) (Nat.le_of_ble_eq_true rfl) rfl ?_
  refine go_putFR hin dX4_init_65 f4_33 (tk0 67 rfl sh67) (by first | exact Or.inl ⟨_, rfl⟩ | exact Or.inr ⟨_, rfl⟩) rfl rfl ?_
  refine go_aload_n (x := 67) dX4_init_68 rfl ?_
  refine go_bipush (v := 10) dX4_init_69 rfl ?_
  refine gt_newI sh76 dX4_init_71 rfl (by decide) (by decide) (Nat.le_of_ble_eq_true rfl) (Nat.le_of_ble_eq_true rfl) rfl ?_
  refine go_putFR hin dX4_init_73 f4_36 (tk0 67 rfl sh67) (by first | exact Or.inl ⟨_, rfl⟩ | exact Or.inr ⟨_, rfl⟩) rfl rfl ?_
  refine go_aload_n (x := 67) dX4_init_76 rfl ?_
  refine go_bipush (v := 10) dX4_init_77 rfl ?_
  refine gt_newI sh77 dX4_init_79 rfl (by decide) (by decide) (Nat.le_of_ble_eq_true rfl) (Nat.le_of_ble_eq_true rfl) rfl ?_
  refine go_putFR hin dX4_init_81 f4_39 (tk0 67 rfl sh67) (by first | exact Or.inl ⟨_, rfl⟩ | exact Or.inr ⟨_, rfl⟩) rfl rfl ?_
  refine go_aload_n (x := 67) dX4_init_84 rfl ?_
  refine gt_new (ci := 0) sh78 dX4_init_85 clX4_42 in0 ini0 (by decide) (Nat.le_of_ble_eq_true rfl) (Nat.le_of_ble_eq_true rfl) rfl ?_
  refine go_dup dX4_init_88 rfl ?_
  refine go_callI (d := d) (mc := 3) (ms := 1606) (she := gSH.take 82) MX0_init [] dX4_init_89 lX4_44 kX0_init rfl rfl iX0_init rfl (Nat.le_of_ble_eq_true rfl) (Nat.le_refl _) (by show 80 * d + 59 ≤ 80 * (d + 1); omega) ⟨Nat.le_of_ble_eq_true rfl, Nat.le_of_ble_eq_true rfl⟩ rfl (cX0_init_78 (by omega) ?_)
  refine go_putFR hin dX4_init_92 f4_45 (tk0 67 rfl sh67) (by first | exact Or.inl ⟨_, rfl⟩ | exact Or.inr ⟨_, rfl⟩) rfl rfl ?_
  refine go_aload_n (x := 67) dX4_init_95 rfl ?_
  refine go_iconst (v := 5) dX4_init_96 rfl ?_
  refine go_putI dX4_init_97 f4_49 (tk0 67 rfl sh67) rfl rfl ?_
  exact go_vret dX4_init_100 rfl vc rfl (Nat.le_of_ble_eq_true rfl) (Nat.le_of_ble_eq_true rfl)
set_option maxRecDepth 100000 in
def eX11_init_0 (h : gH) : gH := sL (sI (sR (eX4_init_67 (sN (sR (sN (sR (sN (sR (eX0_init_61 (sN (sR (eX8_init_58 (sN (sR (eX1_init_53 (sN (sR (eX10_init_49 (sN (sR (eX9_init_29 (eX4_init_30 (sN (sN (sR (eX2_init_6 (sN (sR (eX7_init_5 (sN (sR (eX3_init_4 (sN (sR (eX5_init_1 (sN h 1)) 0 0 (some 1)) 4)) 0 1 (some 4)) 5)) 0 2 (some 5)) 6)) 0 3 (some 6)) 29) 30))) 0 4 (some 29)) 49)) 0 5 (some 49)) 53)) 0 6 (some 53)) 58)) 0 7 (some 58)) 61)) 0 8 (some 61)) 65) 0 9 (some 65)) 66) 0 10 (some 66)) 67)) 0 11 (some 67)) 0 12 0) 0 13 1
set_option maxHeartbeats 8000000 in
set_option maxRecDepth 100000 in
theorem cX11_init_0 {l : Launch} {G : gG} {d : Nat} {h : gH} {Q : Option Value → gH → Prop} (hd : 7 ≤ d) (vc : Q none (eX11_init_0 h)) : gCt l G d MX11_init (gSH.take 1) (gSH.take 82) 81 8740 [.ref 0] h Q := by
  obtain ⟨d, rfl⟩ : ∃ d', d = d' + 1 := ⟨d - 1, by omega⟩
  refine gCt.ofI rfl rfl (by decide) (fun p e s m args below meth c hin => ?_)
  show Go p l e (gRm (d + 1) 81 8740) s m args below meth c G MX11_init (gSH.take 1) 0 0 (gZ below args s G (gSH.take 82) 81 8740 Q) 0 [some (.ref 0)] [] (h)
  refine go_aload_n (x := 0) dX11_init_0 rfl ?_
  refine go_objI dX11_init_1 lOX11_3 gO_i gO_c (Nat.le_add_left 1 d) (by show 0 + 12 ≤ 80 * (d + 1); omega) ?_
  refine go_aload_n (x := 0) dX11_init_4 rfl ?_
  refine gt_new (ci := 5) sh1 dX11_init_5 clX11_9 in5 ini5 (by decide) (Nat.le_of_ble_eq_true rfl) (Nat.le_of_ble_eq_true rfl) rfl ?_
  refine go_dup dX11_init_8 rfl ?_
  refine go_callI (d := d) (mc := 2) (ms := 1640) (she := gSH.take 4) MX5_init [] dX11_init_9 lX11_11 kX5_init rfl rfl iX5_init rfl (Nat.le_of_ble_eq_true rfl) (Nat.le_refl _) (by show 80 * d + 59 ≤ 80 * (d + 1); omega) ⟨Nat.le_of_ble_eq_true rfl, Nat.le_of_ble_eq_true rfl⟩ rfl (cX5_init_1 (by omega) ?_)
  refine go_putFR hin dX11_init_12 f11_12 (tk0 0 rfl sh0) (by first | exact Or.inl ⟨_, rfl⟩ | exact Or.inr ⟨_, rfl⟩) rfl rfl ?_
  refine go_aload_n (x := 0) dX11_init_15 rfl ?_
  refine gt_new (ci := 3) sh4 dX11_init_16 clX11_16 in3 ini3 (by decide) (Nat.le_of_ble_eq_true rfl) (Nat.le_of_ble_eq_true rfl) rfl ?_
  refine go_dup dX11_init_19 rfl ?_
  refine go_aload_n (x := 0) dX11_init_20 rfl ?_
  refine go_getR (x := 1) dX11_init_21 f11_12 (tk0 0 rfl sh0) (fun _ _ => rfl) rfl ?_
  refine go_callI (d := d) (mc := 0) (ms := 0) (she := gSH.take 5) MX3_init [.ref 1] dX11_init_24 lX11_18 kX3_init rfl rfl iX3_init rfl (Nat.le_of_ble_eq_true rfl) (Nat.le_refl _) (by show 80 * d + 59 ≤ 80 * (d + 1); omega) ⟨Nat.le_of_ble_eq_true rfl, Nat.le_of_ble_eq_true rfl⟩ rfl (cX3_init_4 (by omega) ?_)
  refine go_putFR hin dX11_init_27 f11_21 (tk0 0 rfl sh0) (by first | exact Or.inl ⟨_, rfl⟩ | exact Or.inr ⟨_, rfl⟩) rfl rfl ?_
  refine go_aload_n (x := 0) dX11_init_30 rfl ?_
  refine gt_new (ci := 7) sh5 dX11_init_31 clX11_25 in7 ini7 (by decide) (Nat.le_of_ble_eq_true rfl) (Nat.le_of_ble_eq_true rfl) rfl ?_
  refine go_dup dX11_init_34 rfl ?_
  refine go_aload_n (x := 0) dX11_init_35 rfl ?_
  refine go_getR (x := 1) dX11_init_36 f11_12 (tk0 0 rfl sh0) (fun _ _ => rfl) rfl ?_
  refine go_aload_n (x := 0) dX11_init_39 rfl ?_
  refine go_getR (x := 4) dX11_init_40 f11_21 (tk0 0 rfl sh0) (fun _ _ => rfl) rfl ?_
  refine go_callI (d := d) (mc := 0) (ms := 0) (she := gSH.take 6) MX7_init [.ref 1, .ref 4] dX11_init_43 lX11_27 kX7_init rfl rfl iX7_init rfl (Nat.le_of_ble_eq_true rfl) (Nat.le_refl _) (by show 80 * d + 59 ≤ 80 * (d + 1); omega) ⟨Nat.le_of_ble_eq_true rfl, Nat.le_of_ble_eq_true rfl⟩ rfl (cX7_init_5 (by omega) ?_)
  refine go_putFR hin dX11_init_46 f11_30 (tk0 0 rfl sh0) (by first | exact Or.inl ⟨_, rfl⟩ | exact Or.inr ⟨_, rfl⟩) rfl rfl ?_
  refine go_aload_n (x := 0) dX11_init_49 rfl ?_
  refine gt_new (ci := 2) sh6 dX11_init_50 clX11_34 in2 ini2 (by decide) (Nat.le_of_ble_eq_true rfl) (Nat.le_of_ble_eq_true rfl) rfl ?_
  refine go_dup dX11_init_53 rfl ?_
  refine go_callI (d := d) (mc := 22) (ms := 1427) (she := gSH.take 29) MX2_init [] dX11_init_54 lX11_36 kX2_init rfl rfl iX2_init rfl (Nat.le_of_ble_eq_true rfl) (Nat.le_refl _) (by show 80 * d + 59 ≤ 80 * (d + 1); omega) ⟨Nat.le_of_ble_eq_true rfl, Nat.le_of_ble_eq_true rfl⟩ rfl (cX2_init_6 (by omega) ?_)
  refine go_putFR hin dX11_init_57 f11_37 (tk0 0 rfl sh0) (by first | exact Or.inl ⟨_, rfl⟩ | exact Or.inr ⟨_, rfl⟩) rfl rfl ?_
  refine go_aload_n (x := 0) dX11_init_60 rfl ?_
  refine gt_new (ci := 9) sh29 dX11_init_61 clX11_41 in9 ini9 (by decide) (Nat.le_of_ble_eq_true rfl) (Nat.le_of_ble_eq_true rfl) rfl ?_
  refine go_dup dX11_init_64 rfl ?_
  refine gt_new (ci := 4) sh30 dX11_init_65 clX11_43 in4 ini4 (by decide) (Nat.le_of_ble_eq_true rfl) (Nat.le_of_ble_eq_true rfl) rfl ?_
  refine go_dup dX11_init_68 rfl ?_
  refine go_callI (d := d) (mc := 14) (ms := 1792) (she := gSH.take 45) MX4_init [] dX11_init_69 lX11_45 kX4_init rfl rfl iX4_init rfl (Nat.le_of_ble_eq_true rfl) (Nat.le_refl _) (by show 80 * d + 59 ≤ 80 * (d + 1); omega) ⟨Nat.le_of_ble_eq_true rfl, Nat.le_of_ble_eq_true rfl⟩ rfl (cX4_init_30 (by omega) ?_)
  refine go_aload_n (x := 0) dX11_init_72 rfl ?_
  refine go_getR (x := 6) dX11_init_73 f11_37 (tk0 0 rfl sh0) (fun _ _ => rfl) rfl ?_
  refine go_callI (d := d) (mc := 4) (ms := 156) (she := gSH.take 49) MX9_init [.ref 30, .ref 6] dX11_init_76 lX11_46 kX9_init rfl rfl iX9_init rfl (Nat.le_of_ble_eq_true rfl) (Nat.le_refl _) (by show 80 * d + 59 ≤ 80 * (d + 1); omega) ⟨Nat.le_of_ble_eq_true rfl, Nat.le_of_ble_eq_true rfl⟩ rfl (cX9_init_29 (by omega) ?_)
  refine go_putFR hin dX11_init_79 f11_49 (tk0 0 rfl sh0) (by first | exact Or.inl ⟨_, rfl⟩ | exact Or.inr ⟨_, rfl⟩) rfl rfl ?_
  refine go_aload_n (x := 0) dX11_init_82 rfl ?_
  refine gt_new (ci := 10) sh49 dX11_init_83 clX11_53 in10 ini10 (by decide) (Nat.le_of_ble_eq_true rfl) (Nat.le_of_ble_eq_true rfl) rfl ?_
  refine go_dup dX11_init_86 rfl ?_
  refine go_aload_n (x := 0) dX11_init_87 rfl ?_
  refine go_getR (x := 29) dX11_init_88 f11_49 (tk0 0 rfl sh0) (fun _ _ => rfl) rfl ?_
  refine go_callI (d := d) (mc := 3) (ms := 144) (she := gSH.take 53) MX10_init [.ref 29] dX11_init_91 lX11_55 kX10_init rfl rfl iX10_init rfl (Nat.le_of_ble_eq_true rfl) (Nat.le_refl _) (by show 80 * d + 59 ≤ 80 * (d + 1); omega) ⟨Nat.le_of_ble_eq_true rfl, Nat.le_of_ble_eq_true rfl⟩ rfl (cX10_init_49 (by omega) ?_)
  refine go_putFR hin dX11_init_94 f11_58 (tk0 0 rfl sh0) (by first | exact Or.inl ⟨_, rfl⟩ | exact Or.inr ⟨_, rfl⟩) rfl rfl ?_
  refine go_aload_n (x := 0) dX11_init_97 rfl ?_
  refine gt_new (ci := 1) sh53 dX11_init_98 clX11_62 in1 ini1 (by decide) (Nat.le_of_ble_eq_true rfl) (Nat.le_of_ble_eq_true rfl) rfl ?_
  refine go_dup dX11_init_101 rfl ?_
  refine go_aload_n (x := 0) dX11_init_102 rfl ?_
  refine go_getR (x := 29) dX11_init_103 f11_49 (tk0 0 rfl sh0) (fun _ _ => rfl) rfl ?_
  refine go_callI (d := d) (mc := 4) (ms := 24) (she := gSH.take 58) MX1_init [.ref 29] dX11_init_106 lX11_64 kX1_init rfl rfl iX1_init rfl (Nat.le_of_ble_eq_true rfl) (Nat.le_refl _) (by show 80 * d + 59 ≤ 80 * (d + 1); omega) ⟨Nat.le_of_ble_eq_true rfl, Nat.le_of_ble_eq_true rfl⟩ rfl (cX1_init_53 (by omega) ?_)
  refine go_putFR hin dX11_init_109 f11_65 (tk0 0 rfl sh0) (by first | exact Or.inl ⟨_, rfl⟩ | exact Or.inr ⟨_, rfl⟩) rfl rfl ?_
  refine go_aload_n (x := 0) dX11_init_112 rfl ?_
  refine gt_new (ci := 8) sh58 dX11_init_113 clX11_69 in8 ini8 (by decide) (Nat.le_of_ble_eq_true rfl) (Nat.le_of_ble_eq_true rfl) rfl ?_
  refine go_dup dX11_init_116 rfl ?_
  refine go_aload_n (x := 0) dX11_init_117 rfl ?_
  refine go_getR (x := 29) dX11_init_118 f11_49 (tk0 0 rfl sh0) (fun _ _ => rfl) rfl ?_
  refine go_callI (d := d) (mc := 2) (ms := 40) (she := gSH.take 61) MX8_init [.ref 29] dX11_init_121 lX11_71 kX8_init rfl rfl iX8_init rfl (Nat.le_of_ble_eq_true rfl) (Nat.le_refl _) (by show 80 * d + 59 ≤ 80 * (d + 1); omega) ⟨Nat.le_of_ble_eq_true rfl, Nat.le_of_ble_eq_true rfl⟩ rfl (cX8_init_58 (by omega) ?_)
  refine go_putFR hin dX11_init_124 f11_72 (tk0 0 rfl sh0) (by first | exact Or.inl ⟨_, rfl⟩ | exact Or.inr ⟨_, rfl⟩) rfl rfl ?_
  refine go_aload_n (x := 0) dX11_init_127 rfl ?_
  refine gt_new (ci := 0) sh61 dX11_init_128 clX11_76 in0 ini0 (by decide) (Nat.le_of_ble_eq_true rfl) (Nat.le_of_ble_eq_true rfl) rfl ?_
  refine go_dup dX11_init_131 rfl ?_
  refine go_callI (d := d) (mc := 3) (ms := 1606) (she := gSH.take 65) MX0_init [] dX11_init_132 lX11_78 kX0_init rfl rfl iX0_init rfl (Nat.le_of_ble_eq_true rfl) (Nat.le_refl _) (by show 80 * d + 59 ≤ 80 * (d + 1); omega) ⟨Nat.le_of_ble_eq_true rfl, Nat.le_of_ble_eq_true rfl⟩ rfl (cX0_init_61 (by omega) ?_)
  refine go_putFR hin dX11_init_135 f11_79 (tk0 0 rfl sh0) (by first | exact Or.inl ⟨_, rfl⟩ | exact Or.inr ⟨_, rfl⟩) rfl rfl ?_
  refine go_aload_n (x := 0) dX11_init_138 rfl ?_
  refine go_bipush (v := 30) dX11_init_139 rfl ?_
  refine gt_newI sh65 dX11_init_141 rfl (by decide) (by decide) (Nat.le_of_ble_eq_true rfl) (Nat.le_of_ble_eq_true rfl) rfl ?_
  refine go_putFR hin dX11_init_143 f11_83 (tk0 0 rfl sh0) (by first | exact Or.inl ⟨_, rfl⟩ | exact Or.inr ⟨_, rfl⟩) rfl rfl ?_
  refine go_aload_n (x := 0) dX11_init_146 rfl ?_
  refine go_bipush (v := 6) dX11_init_147 rfl ?_
  refine gt_newI sh66 dX11_init_149 rfl (by decide) (by decide) (Nat.le_of_ble_eq_true rfl) (Nat.le_of_ble_eq_true rfl) rfl ?_
  refine go_putFR hin dX11_init_151 f11_87 (tk0 0 rfl sh0) (by first | exact Or.inl ⟨_, rfl⟩ | exact Or.inr ⟨_, rfl⟩) rfl rfl ?_
  refine go_aload_n (x := 0) dX11_init_154 rfl ?_
  refine gt_new (ci := 4) sh67 dX11_init_155 clX11_43 in4 ini4 (by decide) (Nat.le_of_ble_eq_true rfl) (Nat.le_of_ble_eq_true rfl) rfl ?_
  refine go_dup dX11_init_158 rfl ?_
  refine go_callI (d := d) (mc := 14) (ms := 1792) (she := gSH.take 82) MX4_init [] dX11_init_159 lX11_45 kX4_init rfl rfl iX4_init rfl (Nat.le_of_ble_eq_true rfl) (Nat.le_refl _) (by show 80 * d + 59 ≤ 80 * (d + 1); omega) ⟨Nat.le_of_ble_eq_true rfl, Nat.le_of_ble_eq_true rfl⟩ rfl (cX4_init_67 (by omega) ?_)
  refine go_putR dX11_init_162 f11_90 (tk0 0 rfl sh0) rfl rfl ?_
  refine go_aload_n (x := 0) dX11_init_165 rfl ?_
  refine go_iconst (v := 0) dX11_init_166 rfl ?_
  refine go_putI dX11_init_167 f11_94 (tk0 0 rfl sh0) rfl rfl ?_
  refine go_aload_n (x := 0) dX11_init_170 rfl ?_
  refine go_lconst (v := 1) dX11_init_171 rfl ?_
  refine go_putL dX11_init_172 f11_98 (tk0 0 rfl sh0) rfl rfl ?_
  exact go_vret dX11_init_175 rfl vc rfl (Nat.le_of_ble_eq_true rfl) (Nat.le_of_ble_eq_true rfl)
set_option maxRecDepth 100000 in
def eX12_init_82 (h : gH) : gH := sR (sN (sR (sN (sR (sN (sR (sN (sR (sI (sI (sI (sI (sI (sN (sR (sI (sI (sI (sI (sI (sN (sR (sI (sI (sI (sI (sI (sN (sR (sI (sI (sI (sI (sN (sR (sI (sI (sI (sI (sI (sN (sR (sI (sI (sI (sI (sI (sN (sR (sI (sI (sI (sI (sN (sR (sI (sI (sI (sI (sI (sI (sN (sR (sI (sI (sI (sI (sI (sI (sN (sR (sI (sI (sI (sN (sR (sI (sI (sI (sN (sR (sI (sI (sI (sN (sR (sI (sI (sN (sR (sI (sI (sI (sN (sR (sI (sI (sI (sN (sR (sI (sI (sI (sI (sI (sN (sR (sI (sI (sI (sI (sN (sR (sI (sI (sI (sI (sI (sN (sR (sI (sI (sI (sI (sI (sN (sR (sI (sI (sI (sI (sN (sR (sI (sI (sI (sI (sI (sN (sL (sR (sN (sR (sN (sR (sN (sR (sN (sR (sN (sR (sN (sR (sN (sR (sN (sR (sN (sR (sN (sR (sN (sR (sN (sR (sN (sR (sN (sR (sN (sR (sI (sI (sI (sI (sI (sI (sN (sR (sI (sI (sN (sR (sN (sR (sN (sR (sN (sR (sN (sR (sN (sR (sN (sR (sN (sR (sI (sI (sI (sN (sR (sI (sI (sI (sN (sR (sI (sI (sI (sN (sR (sI (sI (sI (sN (sR (sI (sI (sI (sN (sR (sI (sI (sN (sR (sI (sI (sI (sI (sI (sN (sR (sI (sI (sI (sI (sN (sR (sI (sI (sI (sI (sI (sI (sN (sR (sI (sI (sI (sI (sI (sI (sN (sR (sI (sI (sI (sI (sN (sR (sI (sI (sI (sI (sN (sR (sI (sI (sI (sI (sI (sN (sR (sI (sI (sI (sI (sI (sN (sR (sI (sI (sI (sN (sR (sI (sI (sI (sI (sN (sR (sI (sI (sI (sI (sI (sN (sR (sI (sI (sI (sI (sI (sN (sR (sI (sI (sI (sI (sN (sR (sI (sI (sI (sI (sI (sN (sR (sI (sI (sI (sI (sI (sN (sR (sI (sI (sI (sI (sI (sN (sR (sI (sI (sI (sI (sI (sN (sR (sI (sI (sI (sN (sR (sI (sI (sI (sI (sN (sR (sI (sI (sI (sI (sN (sR (sI (sI (sI (sI (sI (sN (sR (sI (sI (sI (sI (sI (sN (sR (sI (sI (sI (sI (sN (sR (sI (sI (sN (sR (sI (sI (sI (sI (sI (sN (sR (sI (sI (sI (sI (sN (sR (sI (sI (sI (sN (sR (sI (sI (sI (sI (sN (sR (sN (sI (sR (sN h 83) 82 0 (some 83)) 82 8 (-1)) 84) 82 9 (some 84)) 85) 85 0 108) 85 1 97) 85 2 107) 85 3 101) 82 11 (some 85)) 86) 86 0 114) 86 1 111) 86 2 119) 82 12 (some 86)) 87) 87 0 98) 87 1 111) 87 2 97) 87 3 116) 82 13 (some 87)) 88) 88 0 116) 88 1 114) 88 2 117) 88 3 115) 88 4 116) 82 14 (some 88)) 89) 89 0 97) 89 1 116) 82 15 (some 89)) 90) 90 0 104) 90 1 97) 90 2 110) 90 3 100) 82 16 (some 90)) 91) 91 0 115) 91 1 107) 91 2 105) 91 3 108) 91 4 108) 82 17 (some 91)) 92) 92 0 108) 92 1 105) 92 2 107) 92 3 101) 92 4 115) 82 18 (some 92)) 93) 93 0 99) 93 1 97) 93 2 108) 93 3 109) 82 19 (some 93)) 94) 94 0 114) 94 1 97) 94 2 105) 94 3 110) 82 20 (some 94)) 95) 95 0 102) 95 1 111) 95 2 103) 82 21 (some 95)) 96) 96 0 115) 96 1 116) 96 2 111) 96 3 114) 96 4 109) 82 22 (some 96)) 97) 97 0 100) 97 1 114) 97 2 101) 97 3 97) 97 4 100) 82 23 (some 97)) 98) 98 0 103) 98 1 114) 98 2 111) 98 3 119) 98 4 115) 82 24 (some 98)) 99) 99 0 102) 99 1 97) 99 2 108) 99 3 108) 99 4 115) 82 25 (some 99)) 100) 100 0 99) 100 1 111) 100 2 97) 100 3 120) 82 26 (some 100)) 101) 101 0 100) 101 1 101) 101 2 112) 101 3 116) 101 4 104) 82 27 (some 101)) 102) 102 0 119) 102 1 114) 102 2 101) 102 3 99) 102 4 107) 82 28 (some 102)) 103) 103 0 104) 103 1 111) 103 2 109) 103 3 101) 82 29 (some 103)) 104) 104 0 115) 104 1 107) 104 2 121) 82 30 (some 104)) 105) 105 0 98) 105 1 97) 105 2 108) 105 3 107) 105 4 115) 82 31 (some 105)) 106) 106 0 97) 106 1 104) 106 2 101) 106 3 97) 106 4 100) 82 32 (some 106)) 107) 107 0 98) 107 1 111) 107 2 108) 107 3 100) 82 33 (some 107)) 108) 108 0 102) 108 1 101) 108 2 97) 108 3 114) 82 34 (some 108)) 109) 109 0 110) 109 1 117) 109 2 109) 109 3 98) 109 4 101) 109 5 114) 82 35 (some 109)) 110) 110 0 97) 110 1 99) 110 2 114) 110 3 111) 110 4 115) 110 5 115) 82 36 (some 110)) 111) 111 0 100) 111 1 111) 111 2 119) 111 3 110) 82 37 (some 111)) 112) 112 0 98) 112 1 111) 112 2 97) 112 3 116) 112 4 115) 82 38 (some 112)) 113) 113 0 111) 113 1 114) 82 39 (some 113)) 114) 114 0 97) 114 1 110) 114 2 100) 82 40 (some 114)) 115) 115 0 110) 115 1 111) 115 2 116) 82 41 (some 115)) 116) 116 0 97) 116 1 108) 116 2 108) 82 42 (some 116)) 117) 117 0 109) 117 1 105) 117 2 110) 82 43 (some 117)) 118) 118 0 109) 118 1 97) 118 2 120) 82 44 (some 118)) 119) 82 46 (some 119)) 120) 82 47 (some 120)) 121) 82 48 (some 121)) 122) 82 49 (some 122)) 123) 82 50 (some 123)) 124) 82 51 (some 124)) 125) 82 52 (some 125)) 126) 126 0 5) 126 1 5) 82 53 (some 126)) 127) 127 0 (-1)) 127 1 (-1)) 127 2 (-1)) 127 3 (-1)) 127 4 (-1)) 127 5 (-1)) 82 54 (some 127)) 128) 82 55 (some 128)) 129) 82 59 (some 129)) 130) 82 61 (some 130)) 131) 82 65 (some 131)) 132) 82 67 (some 132)) 133) 82 68 (some 133)) 134) 82 69 (some 134)) 135) 82 70 (some 135)) 136) 82 71 (some 136)) 137) 82 72 (some 137)) 138) 82 73 (some 138)) 139) 82 74 (some 139)) 140) 82 75 (some 140)) 141) 82 78 (some 141)) 142) 82 79 (some 142)) 82 82 1) 143) 143 0 102) 143 1 105) 143 2 114) 143 3 115) 143 4 116) 82 84 (some 143)) 144) 144 0 108) 144 1 97) 144 2 115) 144 3 116) 82 85 (some 144)) 145) 145 0 111) 145 1 102) 145 2 116) 145 3 101) 145 4 110) 82 86 (some 145)) 146) 146 0 116) 146 1 111) 146 2 116) 146 3 97) 146 4 108) 82 87 (some 146)) 147) 147 0 109) 147 1 111) 147 2 115) 147 3 116) 82 88 (some 147)) 148) 148 0 108) 148 1 101) 148 2 97) 148 3 115) 148 4 116) 82 89 (some 148)) 149) 149 0 110) 149 1 111) 149 2 116) 82 90 (some 149)) 150) 150 0 97) 150 1 110) 150 2 100) 82 91 (some 150)) 151) 151 0 111) 151 1 114) 82 92 (some 151)) 152) 152 0 97) 152 1 108) 152 2 108) 82 93 (some 152)) 153) 153 0 109) 153 1 105) 153 2 110) 82 94 (some 153)) 154) 154 0 109) 154 1 97) 154 2 120) 82 95 (some 154)) 155) 155 0 110) 155 1 117) 155 2 109) 155 3 98) 155 4 101) 155 5 114) 82 96 (some 155)) 156) 156 0 97) 156 1 99) 156 2 114) 156 3 111) 156 4 115) 156 5 115) 82 97 (some 156)) 157) 157 0 100) 157 1 111) 157 2 119) 157 3 110) 82 98 (some 157)) 158) 158 0 100) 158 1 101) 158 2 112) 158 3 116) 158 4 104) 82 99 (some 158)) 159) 159 0 119) 159 1 114) 159 2 101) 159 3 99) 159 4 107) 82 100 (some 159)) 160) 160 0 104) 160 1 111) 160 2 109) 160 3 101) 82 101 (some 160)) 161) 161 0 100) 161 1 114) 161 2 101) 161 3 97) 161 4 100) 82 102 (some 161)) 162) 162 0 116) 162 1 114) 162 2 117) 162 3 115) 162 4 116) 82 103 (some 162)) 163) 163 0 98) 163 1 111) 163 2 97) 163 3 116) 163 4 115) 82 104 (some 163)) 164) 82 105 (some 164)) 165) 82 107 (some 165)) 166) 82 111 (some 166)) 167) 82 115 (some 167)
set_option maxHeartbeats 8000000 in
set_option maxRecDepth 100000 in
theorem cX12_init_82 {l : Launch} {G : gG} {d : Nat} {h : gH} {Q : Option Value → gH → Prop} (hd : 1 ≤ d) (vc : Q none (eX12_init_82 h)) : gCt l G d MX12_init (gSH.take 83) (gSH.take 168) 85 18142 [.ref 82] h Q := by
  obtain ⟨d, rfl⟩ : ∃ d', d = d' + 1 := ⟨d - 1, by omega⟩
  refine gCt.ofI rfl rfl (by decide) (fun p e s m args below meth c hin => ?_)
  show Go p l e (gRm (d + 1) 85 18142) s m args below meth c G MX12_init (gSH.take 83) 0 0 (gZ below args s G (gSH.take 168) 85 18142 Q) 0 [some (.ref 82)] [] (h)
  refine go_aload_n (x := 82) dX12_init_0 rfl ?_
  refine go_objI dX12_init_1 lOX12_1 gO_i gO_c (Nat.le_add_left 1 d) (by show 0 + 12 ≤ 80 * (d + 1); omega) ?_
  refine go_aload_n (x := 82) dX12_init_4 rfl ?_
  refine go_sipush (v := 1600) dX12_init_5 rfl ?_
  refine gt_newI sh83 dX12_init_8 rfl (by decide) (by decide) (Nat.le_of_ble_eq_true rfl) (Nat.le_of_ble_eq_true rfl) rfl ?_
  refine go_putFR hin dX12_init_10 f12_7 (tk0 82 rfl sh82) (by first | exact Or.inl ⟨_, rfl⟩ | exact Or.inr ⟨_, rfl⟩) rfl rfl ?_
  refine go_aload_n (x := 82) dX12_init_13 rfl ?_
  refine go_iconst (v := (-1)) dX12_init_14 rfl ?_
  refine go_putI dX12_init_15 f12_13 (tk0 82 rfl sh82) rfl rfl ?_
  refine go_aload_n (x := 82) dX12_init_18 rfl ?_
  refine go_bipush (v := 6) dX12_init_19 rfl ?_
  refine gt_newI sh84 dX12_init_21 rfl (by decide) (by decide) (Nat.le_of_ble_eq_true rfl) (Nat.le_of_ble_eq_true rfl) rfl ?_
  refine go_putFR hin dX12_init_23 f12_17 (tk0 82 rfl sh82) (by first | exact Or.inl ⟨_, rfl⟩ | exact Or.inr ⟨_, rfl⟩) rfl rfl ?_
  refine go_aload_n (x := 82) dX12_init_26 rfl ?_
  refine go_iconst (v := 4) dX12_init_27 rfl ?_
  refine gt_newC sh85 dX12_init_28 rfl (by decide) (by decide) (Nat.le_of_ble_eq_true rfl) (Nat.le_of_ble_eq_true rfl) rfl ?_
  refine go_dup dX12_init_30 rfl ?_
  refine go_iconst (v := 0) dX12_init_31 rfl ?_
  refine go_bipush (v := 108) dX12_init_32 rfl ?_
  refine go_cast dX12_init_34 (tk0 85 rfl sh85) (by unfold vp_in; decide) rfl ?_
  refine go_dup dX12_init_35 rfl ?_
  refine go_iconst (v := 1) dX12_init_36 rfl ?_
  refine go_bipush (v := 97) dX12_init_37 rfl ?_
  refine go_cast dX12_init_39 (tk0 85 rfl sh85) (by unfold vp_in; decide) rfl ?_
  refine go_dup dX12_init_40 rfl ?_
  refine go_iconst (v := 2) dX12_init_41 rfl ?_
  refine go_bipush (v := 107) dX12_init_42 rfl ?_
  refine go_cast dX12_init_44 (tk0 85 rfl sh85) (by unfold vp_in; decide) rfl ?_
  refine go_dup dX12_init_45 rfl ?_
  refine go_iconst (v := 3) dX12_init_46 rfl ?_
  refine go_bipush (v := 101) dX12_init_47 rfl ?_
  refine go_cast dX12_init_49 (tk0 85 rfl sh85) (by unfold vp_in; decide) rfl ?_
  refine go_putFR hin dX12_init_50 f12_20 (tk0 82 rfl sh82) (by first | exact Or.inl ⟨_, rfl⟩ | exact Or.inr ⟨_, rfl⟩) rfl rfl ?_
  refine go_aload_n (x := 82) dX12_init_53 rfl ?_
  refine go_iconst (v := 3) dX12_init_54 rfl ?_
  refine gt_newC sh86 dX12_init_55 rfl (by decide) (by decide) (Nat.le_of_ble_eq_true rfl) (Nat.le_of_ble_eq_true rfl) rfl ?_
  refine go_dup dX12_init_57 rfl ?_
  refine go_iconst (v := 0) dX12_init_58 rfl ?_
  refine go_bipush (v := 114) dX12_init_59 rfl ?_
  refine go_cast dX12_init_61 (tk0 86 rfl sh86) (by unfold vp_in; decide) rfl ?_
  refine go_dup dX12_init_62 rfl ?_
  refine go_iconst (v := 1) dX12_init_63 rfl ?_
  refine go_bipush (v := 111) dX12_init_64 rfl ?_
  refine go_cast dX12_init_66 (tk0 86 rfl sh86) (by unfold vp_in; decide) rfl ?_
  refine go_dup dX12_init_67 rfl ?_
  refine go_iconst (v := 2) dX12_init_68 rfl ?_
  refine go_bipush (v := 119) dX12_init_69 rfl ?_
  refine go_cast dX12_init_71 (tk0 86 rfl sh86) (by unfold vp_in; decide) rfl ?_
  refine go_putFR hin dX12_init_72 f12_24 (tk0 82 rfl sh82) (by first | exact Or.inl ⟨_, rfl⟩ | exact Or.inr ⟨_, rfl⟩) rfl rfl ?_
  refine go_aload_n (x := 82) dX12_init_75 rfl ?_
  refine go_iconst (v := 4) dX12_init_76 rfl ?_
  refine gt_newC sh87 dX12_init_77 rfl (by decide) (by decide) (Nat.le_of_ble_eq_true rfl) (Nat.le_of_ble_eq_true rfl) rfl ?_
  refine go_dup dX12_init_79 rfl ?_
  refine go_iconst (v := 0) dX12_init_80 rfl ?_
  refine go_bipush (v := 98) dX12_init_81 rfl ?_
  refine go_cast dX12_init_83 (tk0 87 rfl sh87) (by unfold vp_in; decide) rfl ?_
  refine go_dup dX12_init_84 rfl ?_
  refine go_iconst (v := 1) dX12_init_85 rfl ?_
  refine go_bipush (v := 111) dX12_init_86 rfl ?_
  refine go_cast dX12_init_88 (tk0 87 rfl sh87) (by unfold vp_in; decide) rfl ?_
  refine go_dup dX12_init_89 rfl ?_
  refine go_iconst (v := 2) dX12_init_90 rfl ?_
  refine go_bipush (v := 97) dX12_init_91 rfl ?_
  refine go_cast dX12_init_93 (tk0 87 rfl sh87) (by unfold vp_in; decide) rfl ?_
  refine go_dup dX12_init_94 rfl ?_
  refine go_iconst (v := 3) dX12_init_95 rfl ?_
  refine go_bipush (v := 116) dX12_init_96 rfl ?_
  refine go_cast dX12_init_98 (tk0 87 rfl sh87) (by unfold vp_in; decide) rfl ?_
  refine go_putFR hin dX12_init_99 f12_27 (tk0 82 rfl sh82) (by first | exact Or.inl ⟨_, rfl⟩ | exact Or.inr ⟨_, rfl⟩) rfl rfl ?_
  refine go_aload_n (x := 82) dX12_init_102 rfl ?_
  refine go_iconst (v := 5) dX12_init_103 rfl ?_
  refine gt_newC sh88 dX12_init_104 rfl (by decide) (by decide) (Nat.le_of_ble_eq_true rfl) (Nat.le_of_ble_eq_true rfl) rfl ?_
  refine go_dup dX12_init_106 rfl ?_
  refine go_iconst (v := 0) dX12_init_107 rfl ?_
  refine go_bipush (v := 116) dX12_init_108 rfl ?_
  refine go_cast dX12_init_110 (tk0 88 rfl sh88) (by unfold vp_in; decide) rfl ?_
  refine go_dup dX12_init_111 rfl ?_
  refine go_iconst (v := 1) dX12_init_112 rfl ?_
  refine go_bipush (v := 114) dX12_init_113 rfl ?_
  refine go_cast dX12_init_115 (tk0 88 rfl sh88) (by unfold vp_in; decide) rfl ?_
  refine go_dup dX12_init_116 rfl ?_
  refine go_iconst (v := 2) dX12_init_117 rfl ?_
  refine go_bipush (v := 117) dX12_init_118 rfl ?_
  refine go_cast dX12_init_120 (tk0 88 rfl sh88) (by unfold vp_in; decide) rfl ?_
  refine go_dup dX12_init_121 rfl ?_
  refine go_iconst (v := 3) dX12_init_122 rfl ?_
  refine go_bipush (v := 115) dX12_init_123 rfl ?_
  refine go_cast dX12_init_125 (tk0 88 rfl sh88) (by unfold vp_in; decide) rfl ?_
  refine go_dup dX12_init_126 rfl ?_
  refine go_iconst (v := 4) dX12_init_127 rfl ?_
  refine go_bipush (v := 116) dX12_init_128 rfl ?_
  refine go_cast dX12_init_130 (tk0 88 rfl sh88) (by unfold vp_in; decide) rfl ?_
  refine go_putFR hin dX12_init_131 f12_30 (tk0 82 rfl sh82) (by first | exact Or.inl ⟨_, rfl⟩ | exact Or.inr ⟨_, rfl⟩) rfl rfl ?_
  refine go_aload_n (x := 82) dX12_init_134 rfl ?_
  refine go_iconst (v := 2) dX12_init_135 rfl ?_
  refine gt_newC sh89 dX12_init_136 rfl (by decide) (by decide) (Nat.le_of_ble_eq_true rfl) (Nat.le_of_ble_eq_true rfl) rfl ?_
  refine go_dup dX12_init_138 rfl ?_
  refine go_iconst (v := 0) dX12_init_139 rfl ?_
  refine go_bipush (v := 97) dX12_init_140 rfl ?_
  refine go_cast dX12_init_142 (tk0 89 rfl sh89) (by unfold vp_in; decide) rfl ?_
  refine go_dup dX12_init_143 rfl ?_
  refine go_iconst (v := 1) dX12_init_144 rfl ?_
  refine go_bipush (v := 116) dX12_init_145 rfl ?_
  refine go_cast dX12_init_147 (tk0 89 rfl sh89) (by unfold vp_in; decide) rfl ?_
  refine go_putFR hin dX12_init_148 f12_33 (tk0 82 rfl sh82) (by first | exact Or.inl ⟨_, rfl⟩ | exact Or.inr ⟨_, rfl⟩) rfl rfl ?_
  refine go_aload_n (x := 82) dX12_init_151 rfl ?_
  refine go_iconst (v := 4) dX12_init_152 rfl ?_
  refine gt_newC sh90 dX12_init_153 rfl (by decide) (by decide) (Nat.le_of_ble_eq_true rfl) (Nat.le_of_ble_eq_true rfl) rfl ?_
  refine go_dup dX12_init_155 rfl ?_
  refine go_iconst (v := 0) dX12_init_156 rfl ?_
  refine go_bipush (v := 104) dX12_init_157 rfl ?_
  refine go_cast dX12_init_159 (tk0 90 rfl sh90) (by unfold vp_in; decide) rfl ?_
  refine go_dup dX12_init_160 rfl ?_
  refine go_iconst (v := 1) dX12_init_161 rfl ?_
  refine go_bipush (v := 97) dX12_init_162 rfl ?_
  refine go_cast dX12_init_164 (tk0 90 rfl sh90) (by unfold vp_in; decide) rfl ?_
  refine go_dup dX12_init_165 rfl ?_
  refine go_iconst (v := 2) dX12_init_166 rfl ?_
  refine go_bipush (v := 110) dX12_init_167 rfl ?_
  refine go_cast dX12_init_169 (tk0 90 rfl sh90) (by unfold vp_in; decide) rfl ?_
  refine go_dup dX12_init_170 rfl ?_
  refine go_iconst (v := 3) dX12_init_171 rfl ?_
  refine go_bipush (v := 100) dX12_init_172 rfl ?_
  refine go_cast dX12_init_174 (tk0 90 rfl sh90) (by unfold vp_in; decide) rfl ?_
  refine go_putFR hin dX12_init_175 f12_36 (tk0 82 rfl sh82) (by first | exact Or.inl ⟨_, rfl⟩ | exact Or.inr ⟨_, rfl⟩) rfl rfl ?_
  refine go_aload_n (x := 82) dX12_init_178 rfl ?_
  refine go_iconst (v := 5) dX12_init_179 rfl ?_
  refine gt_newC sh91 dX12_init_180 rfl (by decide) (by decide) (Nat.le_of_ble_eq_true rfl) (Nat.le_of_ble_eq_true rfl) rfl ?_
  refine go_dup dX12_init_182 rfl ?_
  refine go_iconst (v := 0) dX12_init_183 rfl ?_
  refine go_bipush (v := 115) dX12_init_184 rfl ?_
  refine go_cast dX12_init_186 (tk0 91 rfl sh91) (by unfold vp_in; decide) rfl ?_
  refine go_dup dX12_init_187 rfl ?_
  refine go_iconst (v := 1) dX12_init_188 rfl ?_
  refine go_bipush (v := 107) dX12_init_189 rfl ?_
  refine go_cast dX12_init_191 (tk0 91 rfl sh91) (by unfold vp_in; decide) rfl ?_
  refine go_dup dX12_init_192 rfl ?_
  refine go_iconst (v := 2) dX12_init_193 rfl ?_
  refine go_bipush (v := 105) dX12_init_194 rfl ?_
  refine go_cast dX12_init_196 (tk0 91 rfl sh91) (by unfold vp_in; decide) rfl ?_
  refine go_dup dX12_init_197 rfl ?_
  refine go_iconst (v := 3) dX12_init_198 rfl ?_
  refine go_bipush (v := 108) dX12_init_199 rfl ?_
  refine go_cast dX12_init_201 (tk0 91 rfl sh91) (by unfold vp_in; decide) rfl ?_
  refine go_dup dX12_init_202 rfl ?_
  refine go_iconst (v := 4) dX12_init_203 rfl ?_
  refine go_bipush (v := 108) dX12_init_204 rfl ?_
  refine go_cast dX12_init_206 (tk0 91 rfl sh91) (by unfold vp_in; decide) rfl ?_
  refine go_putFR hin dX12_init_207 f12_39 (tk0 82 rfl sh82) (by first | exact Or.inl ⟨_, rfl⟩ | exact Or.inr ⟨_, rfl⟩) rfl rfl ?_
  refine go_aload_n (x := 82) dX12_init_210 rfl ?_
  refine go_iconst (v := 5) dX12_init_211 rfl ?_
  refine gt_newC sh92 dX12_init_212 rfl (by decide) (by decide) (Nat.le_of_ble_eq_true rfl) (Nat.le_of_ble_eq_true rfl) rfl ?_
  refine go_dup dX12_init_214 rfl ?_
  refine go_iconst (v := 0) dX12_init_215 rfl ?_
  refine go_bipush (v := 108) dX12_init_216 rfl ?_
  refine go_cast dX12_init_218 (tk0 92 rfl sh92) (by unfold vp_in; decide) rfl ?_
  refine go_dup dX12_init_219 rfl ?_
  refine go_iconst (v := 1) dX12_init_220 rfl ?_
  refine go_bipush (v := 105) dX12_init_221 rfl ?_
  refine go_cast dX12_init_223 (tk0 92 rfl sh92) (by unfold vp_in; decide) rfl ?_
  refine go_dup dX12_init_224 rfl ?_
  refine go_iconst (v := 2) dX12_init_225 rfl ?_
  refine go_bipush (v := 107) dX12_init_226 rfl ?_
  refine go_cast dX12_init_228 (tk0 92 rfl sh92) (by unfold vp_in; decide) rfl ?_
  refine go_dup dX12_init_229 rfl ?_
  refine go_iconst (v := 3) dX12_init_230 rfl ?_
  refine go_bipush (v := 101) dX12_init_231 rfl ?_
  refine go_cast dX12_init_233 (tk0 92 rfl sh92) (by unfold vp_in; decide) rfl ?_
  refine go_dup dX12_init_234 rfl ?_
  refine go_iconst (v := 4) dX12_init_235 rfl ?_
  refine go_bipush (v := 115) dX12_init_236 rfl ?_
  refine go_cast dX12_init_238 (tk0 92 rfl sh92) (by unfold vp_in; decide) rfl ?_
  refine go_putFR hin dX12_init_239 f12_42 (tk0 82 rfl sh82) (by first | exact Or.inl ⟨_, rfl⟩ | exact Or.inr ⟨_, rfl⟩) rfl rfl ?_
  refine go_aload_n (x := 82) dX12_init_242 rfl ?_
  refine go_iconst (v := 4) dX12_init_243 rfl ?_
  refine gt_newC sh93 dX12_init_244 rfl (by decide) (by decide) (Nat.le_of_ble_eq_true rfl) (Nat.le_of_ble_eq_true rfl) rfl ?_
  refine go_dup dX12_init_246 rfl ?_
  refine go_iconst (v := 0) dX12_init_247 rfl ?_
  refine go_bipush (v := 99) dX12_init_248 rfl ?_
  refine go_cast dX12_init_250 (tk0 93 rfl sh93) (by unfold vp_in; decide) rfl ?_
  refine go_dup dX12_init_251 rfl ?_
  refine go_iconst (v := 1) dX12_init_252 rfl ?_
  refine go_bipush (v := 97) dX12_init_253 rfl ?_
  refine go_cast dX12_init_255 (tk0 93 rfl sh93) (by unfold vp_in; decide) rfl ?_
  refine go_dup dX12_init_256 rfl ?_
  refine go_iconst (v := 2) dX12_init_257 rfl ?_
  refine go_bipush (v := 108) dX12_init_258 rfl ?_
  refine go_cast dX12_init_260 (tk0 93 rfl sh93) (by unfold vp_in; decide) rfl ?_
  refine go_dup dX12_init_261 rfl ?_
  refine go_iconst (v := 3) dX12_init_262 rfl ?_
  refine go_bipush (v := 109) dX12_init_263 rfl ?_
  refine go_cast dX12_init_265 (tk0 93 rfl sh93) (by unfold vp_in; decide) rfl ?_
  refine go_putFR hin dX12_init_266 f12_45 (tk0 82 rfl sh82) (by first | exact Or.inl ⟨_, rfl⟩ | exact Or.inr ⟨_, rfl⟩) rfl rfl ?_
  refine go_aload_n (x := 82) dX12_init_269 rfl ?_
  refine go_iconst (v := 4) dX12_init_270 rfl ?_
  refine gt_newC sh94 dX12_init_271 rfl (by decide) (by decide) (Nat.le_of_ble_eq_true rfl) (Nat.le_of_ble_eq_true rfl) rfl ?_
  refine go_dup dX12_init_273 rfl ?_
  refine go_iconst (v := 0) dX12_init_274 rfl ?_
  refine go_bipush (v := 114) dX12_init_275 rfl ?_
  refine go_cast dX12_init_277 (tk0 94 rfl sh94) (by unfold vp_in; decide) rfl ?_
  refine go_dup dX12_init_278 rfl ?_
  refine go_iconst (v := 1) dX12_init_279 rfl ?_
  refine go_bipush (v := 97) dX12_init_280 rfl ?_
  refine go_cast dX12_init_282 (tk0 94 rfl sh94) (by unfold vp_in; decide) rfl ?_
  refine go_dup dX12_init_283 rfl ?_
  refine go_iconst (v := 2) dX12_init_284 rfl ?_
  refine go_bipush (v := 105) dX12_init_285 rfl ?_
  refine go_cast dX12_init_287 (tk0 94 rfl sh94) (by unfold vp_in; decide) rfl ?_
  refine go_dup dX12_init_288 rfl ?_
  refine go_iconst (v := 3) dX12_init_289 rfl ?_
  refine go_bipush (v := 110) dX12_init_290 rfl ?_
  refine go_cast dX12_init_292 (tk0 94 rfl sh94) (by unfold vp_in; decide) rfl ?_
  refine go_putFR hin dX12_init_293 f12_48 (tk0 82 rfl sh82) (by first | exact Or.inl ⟨_, rfl⟩ | exact Or.inr ⟨_, rfl⟩) rfl rfl ?_
  refine go_aload_n (x := 82) dX12_init_296 rfl ?_
  refine go_iconst (v := 3) dX12_init_297 rfl ?_
  refine gt_newC sh95 dX12_init_298 rfl (by decide) (by decide) (Nat.le_of_ble_eq_true rfl) (Nat.le_of_ble_eq_true rfl) rfl ?_
  refine go_dup dX12_init_300 rfl ?_
  refine go_iconst (v := 0) dX12_init_301 rfl ?_
  refine go_bipush (v := 102) dX12_init_302 rfl ?_
  refine go_cast dX12_init_304 (tk0 95 rfl sh95) (by unfold vp_in; decide) rfl ?_
  refine go_dup dX12_init_305 rfl ?_
  refine go_iconst (v := 1) dX12_init_306 rfl ?_
  refine go_bipush (v := 111) dX12_init_307 rfl ?_
  refine go_cast dX12_init_309 (tk0 95 rfl sh95) (by unfold vp_in; decide) rfl ?_
  refine go_dup dX12_init_310 rfl ?_
  refine go_iconst (v := 2) dX12_init_311 rfl ?_
  refine go_bipush (v := 103) dX12_init_312 rfl ?_
  refine go_cast dX12_init_314 (tk0 95 rfl sh95) (by unfold vp_in; decide) rfl ?_
  refine go_putFR hin dX12_init_315 f12_51 (tk0 82 rfl sh82) (by first | exact Or.inl ⟨_, rfl⟩ | exact Or.inr ⟨_, rfl⟩) rfl rfl ?_
  refine go_aload_n (x := 82) dX12_init_318 rfl ?_
  refine go_iconst (v := 5) dX12_init_319 rfl ?_
  refine gt_newC sh96 dX12_init_320 rfl (by decide) (by decide) (Nat.le_of_ble_eq_true rfl) (Nat.le_of_ble_eq_true rfl) rfl ?_
  refine go_dup dX12_init_322 rfl ?_
  refine go_iconst (v := 0) dX12_init_323 rfl ?_
  refine go_bipush (v := 115) dX12_init_324 rfl ?_
  refine go_cast dX12_init_326 (tk0 96 rfl sh96) (by unfold vp_in; decide) rfl ?_
  refine go_dup dX12_init_327 rfl ?_
  refine go_iconst (v := 1) dX12_init_328 rfl ?_
  refine go_bipush (v := 116) dX12_init_329 rfl ?_
  refine go_cast dX12_init_331 (tk0 96 rfl sh96) (by unfold vp_in; decide) rfl ?_
  refine go_dup dX12_init_332 rfl ?_
  refine go_iconst (v := 2) dX12_init_333 rfl ?_
  refine go_bipush (v := 111) dX12_init_334 rfl ?_
  refine go_cast dX12_init_336 (tk0 96 rfl sh96) (by unfold vp_in; decide) rfl ?_
  refine go_dup dX12_init_337 rfl ?_
  refine go_iconst (v := 3) dX12_init_338 rfl ?_
  refine go_bipush (v := 114) dX12_init_339 rfl ?_
  refine go_cast dX12_init_341 (tk0 96 rfl sh96) (by unfold vp_in; decide) rfl ?_
  refine go_dup dX12_init_342 rfl ?_
  refine go_iconst (v := 4) dX12_init_343 rfl ?_
  refine go_bipush (v := 109) dX12_init_344 rfl ?_
  refine go_cast dX12_init_346 (tk0 96 rfl sh96) (by unfold vp_in; decide) rfl ?_
  refine go_putFR hin dX12_init_347 f12_54 (tk0 82 rfl sh82) (by first | exact Or.inl ⟨_, rfl⟩ | exact Or.inr ⟨_, rfl⟩) rfl rfl ?_
  refine go_aload_n (x := 82) dX12_init_350 rfl ?_
  refine go_iconst (v := 5) dX12_init_351 rfl ?_
  refine gt_newC sh97 dX12_init_352 rfl (by decide) (by decide) (Nat.le_of_ble_eq_true rfl) (Nat.le_of_ble_eq_true rfl) rfl ?_
  refine go_dup dX12_init_354 rfl ?_
  refine go_iconst (v := 0) dX12_init_355 rfl ?_
  refine go_bipush (v := 100) dX12_init_356 rfl ?_
  refine go_cast dX12_init_358 (tk0 97 rfl sh97) (by unfold vp_in; decide) rfl ?_
  refine go_dup dX12_init_359 rfl ?_
  refine go_iconst (v := 1) dX12_init_360 rfl ?_
  refine go_bipush (v := 114) dX12_init_361 rfl ?_
  refine go_cast dX12_init_363 (tk0 97 rfl sh97) (by unfold vp_in; decide) rfl ?_
  refine go_dup dX12_init_364 rfl ?_
  refine go_iconst (v := 2) dX12_init_365 rfl ?_
  refine go_bipush (v := 101) dX12_init_366 rfl ?_
  refine go_cast dX12_init_368 (tk0 97 rfl sh97) (by unfold vp_in; decide) rfl ?_
  refine go_dup dX12_init_369 rfl ?_
  refine go_iconst (v := 3) dX12_init_370 rfl ?_
  refine go_bipush (v := 97) dX12_init_371 rfl ?_
  refine go_cast dX12_init_373 (tk0 97 rfl sh97) (by unfold vp_in; decide) rfl ?_
  refine go_dup dX12_init_374 rfl ?_
  refine go_iconst (v := 4) dX12_init_375 rfl ?_
  refine go_bipush (v := 100) dX12_init_376 rfl ?_
  refine go_cast dX12_init_378 (tk0 97 rfl sh97) (by unfold vp_in; decide) rfl ?_
  refine go_putFR hin dX12_init_379 f12_57 (tk0 82 rfl sh82) (by first | exact Or.inl ⟨_, rfl⟩ | exact Or.inr ⟨_, rfl⟩) rfl rfl ?_
  refine go_aload_n (x := 82) dX12_init_382 rfl ?_
  refine go_iconst (v := 5) dX12_init_383 rfl ?_
  refine gt_newC sh98 dX12_init_384 rfl (by decide) (by decide) (Nat.le_of_ble_eq_true rfl) (Nat.le_of_ble_eq_true rfl) rfl ?_
  refine go_dup dX12_init_386 rfl ?_
  refine go_iconst (v := 0) dX12_init_387 rfl ?_
  refine go_bipush (v := 103) dX12_init_388 rfl ?_
  refine go_cast dX12_init_390 (tk0 98 rfl sh98) (by unfold vp_in; decide) rfl ?_
  refine go_dup dX12_init_391 rfl ?_
  refine go_iconst (v := 1) dX12_init_392 rfl ?_
  refine go_bipush (v := 114) dX12_init_393 rfl ?_
  refine go_cast dX12_init_395 (tk0 98 rfl sh98) (by unfold vp_in; decide) rfl ?_
  refine go_dup dX12_init_396 rfl ?_
  refine go_iconst (v := 2) dX12_init_397 rfl ?_
  refine go_bipush (v := 111) dX12_init_398 rfl ?_
  refine go_cast dX12_init_400 (tk0 98 rfl sh98) (by unfold vp_in; decide) rfl ?_
  refine go_dup dX12_init_401 rfl ?_
  refine go_iconst (v := 3) dX12_init_402 rfl ?_
  refine go_bipush (v := 119) dX12_init_403 rfl ?_
  refine go_cast dX12_init_405 (tk0 98 rfl sh98) (by unfold vp_in; decide) rfl ?_
  refine go_dup dX12_init_406 rfl ?_
  refine go_iconst (v := 4) dX12_init_407 rfl ?_
  refine go_bipush (v := 115) dX12_init_408 rfl ?_
  refine go_cast dX12_init_410 (tk0 98 rfl sh98) (by unfold vp_in; decide) rfl ?_
  refine go_putFR hin dX12_init_411 f12_60 (tk0 82 rfl sh82) (by first | exact Or.inl ⟨_, rfl⟩ | exact Or.inr ⟨_, rfl⟩) rfl rfl ?_
  refine go_aload_n (x := 82) dX12_init_414 rfl ?_
  refine go_iconst (v := 5) dX12_init_415 rfl ?_
  refine gt_newC sh99 dX12_init_416 rfl (by decide) (by decide) (Nat.le_of_ble_eq_true rfl) (Nat.le_of_ble_eq_true rfl) rfl ?_
  refine go_dup dX12_init_418 rfl ?_
  refine go_iconst (v := 0) dX12_init_419 rfl ?_
  refine go_bipush (v := 102) dX12_init_420 rfl ?_
  refine go_cast dX12_init_422 (tk0 99 rfl sh99) (by unfold vp_in; decide) rfl ?_
  refine go_dup dX12_init_423 rfl ?_
  refine go_iconst (v := 1) dX12_init_424 rfl ?_
  refine go_bipush (v := 97) dX12_init_425 rfl ?_
  refine go_cast dX12_init_427 (tk0 99 rfl sh99) (by unfold vp_in; decide) rfl ?_
  refine go_dup dX12_init_428 rfl ?_
  refine go_iconst (v := 2) dX12_init_429 rfl ?_
  refine go_bipush (v := 108) dX12_init_430 rfl ?_
  refine go_cast dX12_init_432 (tk0 99 rfl sh99) (by unfold vp_in; decide) rfl ?_
  refine go_dup dX12_init_433 rfl ?_
  refine go_iconst (v := 3) dX12_init_434 rfl ?_
  refine go_bipush (v := 108) dX12_init_435 rfl ?_
  refine go_cast dX12_init_437 (tk0 99 rfl sh99) (by unfold vp_in; decide) rfl ?_
  refine go_dup dX12_init_438 rfl ?_
  refine go_iconst (v := 4) dX12_init_439 rfl ?_
  refine go_bipush (v := 115) dX12_init_440 rfl ?_
  refine go_cast dX12_init_442 (tk0 99 rfl sh99) (by unfold vp_in; decide) rfl ?_
  refine go_putFR hin dX12_init_443 f12_63 (tk0 82 rfl sh82) (by first | exact Or.inl ⟨_, rfl⟩ | exact Or.inr ⟨_, rfl⟩) rfl rfl ?_
  refine go_aload_n (x := 82) dX12_init_446 rfl ?_
  refine go_iconst (v := 4) dX12_init_447 rfl ?_
  refine gt_newC sh100 dX12_init_448 rfl (by decide) (by decide) (Nat.le_of_ble_eq_true rfl) (Nat.le_of_ble_eq_true rfl) rfl ?_
  refine go_dup dX12_init_450 rfl ?_
  refine go_iconst (v := 0) dX12_init_451 rfl ?_
  refine go_bipush (v := 99) dX12_init_452 rfl ?_
  refine go_cast dX12_init_454 (tk0 100 rfl sh100) (by unfold vp_in; decide) rfl ?_
  refine go_dup dX12_init_455 rfl ?_
  refine go_iconst (v := 1) dX12_init_456 rfl ?_
  refine go_bipush (v := 111) dX12_init_457 rfl ?_
  refine go_cast dX12_init_459 (tk0 100 rfl sh100) (by unfold vp_in; decide) rfl ?_
  refine go_dup dX12_init_460 rfl ?_
  refine go_iconst (v := 2) dX12_init_461 rfl ?_
  refine go_bipush (v := 97) dX12_init_462 rfl ?_
  refine go_cast dX12_init_464 (tk0 100 rfl sh100) (by unfold vp_in; decide) rfl ?_
  refine go_dup dX12_init_465 rfl ?_
  refine go_iconst (v := 3) dX12_init_466 rfl ?_
  refine go_bipush (v := 120) dX12_init_467 rfl ?_
  refine go_cast dX12_init_469 (tk0 100 rfl sh100) (by unfold vp_in; decide) rfl ?_
  refine go_putFR hin dX12_init_470 f12_66 (tk0 82 rfl sh82) (by first | exact Or.inl ⟨_, rfl⟩ | exact Or.inr ⟨_, rfl⟩) rfl rfl ?_
  refine go_aload_n (x := 82) dX12_init_473 rfl ?_
  refine go_iconst (v := 5) dX12_init_474 rfl ?_
  refine gt_newC sh101 dX12_init_475 rfl (by decide) (by decide) (Nat.le_of_ble_eq_true rfl) (Nat.le_of_ble_eq_true rfl) rfl ?_
  refine go_dup dX12_init_477 rfl ?_
  refine go_iconst (v := 0) dX12_init_478 rfl ?_
  refine go_bipush (v := 100) dX12_init_479 rfl ?_
  refine go_cast dX12_init_481 (tk0 101 rfl sh101) (by unfold vp_in; decide) rfl ?_
  refine go_dup dX12_init_482 rfl ?_
  refine go_iconst (v := 1) dX12_init_483 rfl ?_
  refine go_bipush (v := 101) dX12_init_484 rfl ?_
  refine go_cast dX12_init_486 (tk0 101 rfl sh101) (by unfold vp_in; decide) rfl ?_
  refine go_dup dX12_init_487 rfl ?_
  refine go_iconst (v := 2) dX12_init_488 rfl ?_
  refine go_bipush (v := 112) dX12_init_489 rfl ?_
  refine go_cast dX12_init_491 (tk0 101 rfl sh101) (by unfold vp_in; decide) rfl ?_
  refine go_dup dX12_init_492 rfl ?_
  refine go_iconst (v := 3) dX12_init_493 rfl ?_
  refine go_bipush (v := 116) dX12_init_494 rfl ?_
  refine go_cast dX12_init_496 (tk0 101 rfl sh101) (by unfold vp_in; decide) rfl ?_
  refine go_dup dX12_init_497 rfl ?_
  refine go_iconst (v := 4) dX12_init_498 rfl ?_
  refine go_bipush (v := 104) dX12_init_499 rfl ?_
  refine go_cast dX12_init_501 (tk0 101 rfl sh101) (by unfold vp_in; decide) rfl ?_
  refine go_putFR hin dX12_init_502 f12_69 (tk0 82 rfl sh82) (by first | exact Or.inl ⟨_, rfl⟩ | exact Or.inr ⟨_, rfl⟩) rfl rfl ?_
  refine go_aload_n (x := 82) dX12_init_505 rfl ?_
  refine go_iconst (v := 5) dX12_init_506 rfl ?_
  refine gt_newC sh102 dX12_init_507 rfl (by decide) (by decide) (Nat.le_of_ble_eq_true rfl) (Nat.le_of_ble_eq_true rfl) rfl ?_
  refine go_dup dX12_init_509 rfl ?_
  refine go_iconst (v := 0) dX12_init_510 rfl ?_
  refine go_bipush (v := 119) dX12_init_511 rfl ?_
  refine go_cast dX12_init_513 (tk0 102 rfl sh102) (by unfold vp_in; decide) rfl ?_
  refine go_dup dX12_init_514 rfl ?_
  refine go_iconst (v := 1) dX12_init_515 rfl ?_
  refine go_bipush (v := 114) dX12_init_516 rfl ?_
  refine go_cast dX12_init_518 (tk0 102 rfl sh102) (by unfold vp_in; decide) rfl ?_
  refine go_dup dX12_init_519 rfl ?_
  refine go_iconst (v := 2) dX12_init_520 rfl ?_
  refine go_bipush (v := 101) dX12_init_521 rfl ?_
  refine go_cast dX12_init_523 (tk0 102 rfl sh102) (by unfold vp_in; decide) rfl ?_
  refine go_dup dX12_init_524 rfl ?_
  refine go_iconst (v := 3) dX12_init_525 rfl ?_
  refine go_bipush (v := 99) dX12_init_526 rfl ?_
  refine go_cast dX12_init_528 (tk0 102 rfl sh102) (by unfold vp_in; decide) rfl ?_
  refine go_dup dX12_init_529 rfl ?_
  refine go_iconst (v := 4) dX12_init_530 rfl ?_
  refine go_bipush (v := 107) dX12_init_531 rfl ?_
  refine go_cast dX12_init_533 (tk0 102 rfl sh102) (by unfold vp_in; decide) rfl ?_
  refine go_putFR hin dX12_init_534 f12_72 (tk0 82 rfl sh82) (by first | exact Or.inl ⟨_, rfl⟩ | exact Or.inr ⟨_, rfl⟩) rfl rfl ?_
  refine go_aload_n (x := 82) dX12_init_537 rfl ?_
  refine go_iconst (v := 4) dX12_init_538 rfl ?_
  refine gt_newC sh103 dX12_init_539 rfl (by decide) (by decide) (Nat.le_of_ble_eq_true rfl) (Nat.le_of_ble_eq_true rfl) rfl ?_
  refine go_dup dX12_init_541 rfl ?_
  refine go_iconst (v := 0) dX12_init_542 rfl ?_
  refine go_bipush (v := 104) dX12_init_543 rfl ?_
  refine go_cast dX12_init_545 (tk0 103 rfl sh103) (by unfold vp_in; decide) rfl ?_
  refine go_dup dX12_init_546 rfl ?_
  refine go_iconst (v := 1) dX12_init_547 rfl ?_
  refine go_bipush (v := 111) dX12_init_548 rfl ?_
  refine go_cast dX12_init_550 (tk0 103 rfl sh103) (by unfold vp_in; decide) rfl ?_
  refine go_dup dX12_init_551 rfl ?_
  refine go_iconst (v := 2) dX12_init_552 rfl ?_
  refine go_bipush (v := 109) dX12_init_553 rfl ?_
  refine go_cast dX12_init_555 (tk0 103 rfl sh103) (by unfold vp_in; decide) rfl ?_
  refine go_dup dX12_init_556 rfl ?_
  refine go_iconst (v := 3) dX12_init_557 rfl ?_
  refine go_bipush (v := 101) dX12_init_558 rfl ?_
  refine go_cast dX12_init_560 (tk0 103 rfl sh103) (by unfold vp_in; decide) rfl ?_
  refine go_putFR hin dX12_init_561 f12_75 (tk0 82 rfl sh82) (by first | exact Or.inl ⟨_, rfl⟩ | exact Or.inr ⟨_, rfl⟩) rfl rfl ?_
  refine go_aload_n (x := 82) dX12_init_564 rfl ?_
  refine go_iconst (v := 3) dX12_init_565 rfl ?_
  refine gt_newC sh104 dX12_init_566 rfl (by decide) (by decide) (Nat.le_of_ble_eq_true rfl) (Nat.le_of_ble_eq_true rfl) rfl ?_
  refine go_dup dX12_init_568 rfl ?_
  refine go_iconst (v := 0) dX12_init_569 rfl ?_
  refine go_bipush (v := 115) dX12_init_570 rfl ?_
  refine go_cast dX12_init_572 (tk0 104 rfl sh104) (by unfold vp_in; decide) rfl ?_
  refine go_dup dX12_init_573 rfl ?_
  refine go_iconst (v := 1) dX12_init_574 rfl ?_
  refine go_bipush (v := 107) dX12_init_575 rfl ?_
  refine go_cast dX12_init_577 (tk0 104 rfl sh104) (by unfold vp_in; decide) rfl ?_
  refine go_dup dX12_init_578 rfl ?_
  refine go_iconst (v := 2) dX12_init_579 rfl ?_
  refine go_bipush (v := 121) dX12_init_580 rfl ?_
  refine go_cast dX12_init_582 (tk0 104 rfl sh104) (by unfold vp_in; decide) rfl ?_
  refine go_putFR hin dX12_init_583 f12_78 (tk0 82 rfl sh82) (by first | exact Or.inl ⟨_, rfl⟩ | exact Or.inr ⟨_, rfl⟩) rfl rfl ?_
  refine go_aload_n (x := 82) dX12_init_586 rfl ?_
  refine go_iconst (v := 5) dX12_init_587 rfl ?_
  refine gt_newC sh105 dX12_init_588 rfl (by decide) (by decide) (Nat.le_of_ble_eq_true rfl) (Nat.le_of_ble_eq_true rfl) rfl ?_
  refine go_dup dX12_init_590 rfl ?_
  refine go_iconst (v := 0) dX12_init_591 rfl ?_
  refine go_bipush (v := 98) dX12_init_592 rfl ?_
  refine go_cast dX12_init_594 (tk0 105 rfl sh105) (by unfold vp_in; decide) rfl ?_
  refine go_dup dX12_init_595 rfl ?_
  refine go_iconst (v := 1) dX12_init_596 rfl ?_
  refine go_bipush (v := 97) dX12_init_597 rfl ?_
  refine go_cast dX12_init_599 (tk0 105 rfl sh105) (by unfold vp_in; decide) rfl ?_
  refine go_dup dX12_init_600 rfl ?_
  refine go_iconst (v := 2) dX12_init_601 rfl ?_
  refine go_bipush (v := 108) dX12_init_602 rfl ?_
  refine go_cast dX12_init_604 (tk0 105 rfl sh105) (by unfold vp_in; decide) rfl ?_
  refine go_dup dX12_init_605 rfl ?_
  refine go_iconst (v := 3) dX12_init_606 rfl ?_
  refine go_bipush (v := 107) dX12_init_607 rfl ?_
  refine go_cast dX12_init_609 (tk0 105 rfl sh105) (by unfold vp_in; decide) rfl ?_
  refine go_dup dX12_init_610 rfl ?_
  refine go_iconst (v := 4) dX12_init_611 rfl ?_
  refine go_bipush (v := 115) dX12_init_612 rfl ?_
  refine go_cast dX12_init_614 (tk0 105 rfl sh105) (by unfold vp_in; decide) rfl ?_
  refine go_putFR hin dX12_init_615 f12_81 (tk0 82 rfl sh82) (by first | exact Or.inl ⟨_, rfl⟩ | exact Or.inr ⟨_, rfl⟩) rfl rfl ?_
  refine go_aload_n (x := 82) dX12_init_618 rfl ?_
  refine go_iconst (v := 5) dX12_init_619 rfl ?_
  refine gt_newC sh106 dX12_init_620 rfl (by decide) (by decide) (Nat.le_of_ble_eq_true rfl) (Nat.le_of_ble_eq_true rfl) rfl ?_
  refine go_dup dX12_init_622 rfl ?_
  refine go_iconst (v := 0) dX12_init_623 rfl ?_
  refine go_bipush (v := 97) dX12_init_624 rfl ?_
  refine go_cast dX12_init_626 (tk0 106 rfl sh106) (by unfold vp_in; decide) rfl ?_
  refine go_dup dX12_init_627 rfl ?_
  refine go_iconst (v := 1) dX12_init_628 rfl ?_
  refine go_bipush (v := 104) dX12_init_629 rfl ?_
  refine go_cast dX12_init_631 (tk0 106 rfl sh106) (by unfold vp_in; decide) rfl ?_
  refine go_dup dX12_init_632 rfl ?_
  refine go_iconst (v := 2) dX12_init_633 rfl ?_
  refine go_bipush (v := 101) dX12_init_634 rfl ?_
  refine go_cast dX12_init_636 (tk0 106 rfl sh106) (by unfold vp_in; decide) rfl ?_
  refine go_dup dX12_init_637 rfl ?_
  refine go_iconst (v := 3) dX12_init_638 rfl ?_
  refine go_bipush (v := 97) dX12_init_639 rfl ?_
  refine go_cast dX12_init_641 (tk0 106 rfl sh106) (by unfold vp_in; decide) rfl ?_
  refine go_dup dX12_init_642 rfl ?_
  refine go_iconst (v := 4) dX12_init_643 rfl ?_
  refine go_bipush (v := 100) dX12_init_644 rfl ?_
  refine go_cast dX12_init_646 (tk0 106 rfl sh106) (by unfold vp_in; decide) rfl ?_
  refine go_putFR hin dX12_init_647 f12_84 (tk0 82 rfl sh82) (by first | exact Or.inl ⟨_, rfl⟩ | exact Or.inr ⟨_, rfl⟩) rfl rfl ?_
  refine go_aload_n (x := 82) dX12_init_650 rfl ?_
  refine go_iconst (v := 4) dX12_init_651 rfl ?_
  refine gt_newC sh107 dX12_init_652 rfl (by decide) (by decide) (Nat.le_of_ble_eq_true rfl) (Nat.le_of_ble_eq_true rfl) rfl ?_
  refine go_dup dX12_init_654 rfl ?_
  refine go_iconst (v := 0) dX12_init_655 rfl ?_
  refine go_bipush (v := 98) dX12_init_656 rfl ?_
  refine go_cast dX12_init_658 (tk0 107 rfl sh107) (by unfold vp_in; decide) rfl ?_
  refine go_dup dX12_init_659 rfl ?_
  refine go_iconst (v := 1) dX12_init_660 rfl ?_
  refine go_bipush (v := 111) dX12_init_661 rfl ?_
  refine go_cast dX12_init_663 (tk0 107 rfl sh107) (by unfold vp_in; decide) rfl ?_
  refine go_dup dX12_init_664 rfl ?_
  refine go_iconst (v := 2) dX12_init_665 rfl ?_
  refine go_bipush (v := 108) dX12_init_666 rfl ?_
  refine go_cast dX12_init_668 (tk0 107 rfl sh107) (by unfold vp_in; decide) rfl ?_
  refine go_dup dX12_init_669 rfl ?_
  refine go_iconst (v := 3) dX12_init_670 rfl ?_
  refine go_bipush (v := 100) dX12_init_671 rfl ?_
  refine go_cast dX12_init_673 (tk0 107 rfl sh107) (by unfold vp_in; decide) rfl ?_
  refine go_putFR hin dX12_init_674 f12_87 (tk0 82 rfl sh82) (by first | exact Or.inl ⟨_, rfl⟩ | exact Or.inr ⟨_, rfl⟩) rfl rfl ?_
  refine go_aload_n (x := 82) dX12_init_677 rfl ?_
  refine go_iconst (v := 4) dX12_init_678 rfl ?_
  refine gt_newC sh108 dX12_init_679 rfl (by decide) (by decide) (Nat.le_of_ble_eq_true rfl) (Nat.le_of_ble_eq_true rfl) rfl ?_
  refine go_dup dX12_init_681 rfl ?_
  refine go_iconst (v := 0) dX12_init_682 rfl ?_
  refine go_bipush (v := 102) dX12_init_683 rfl ?_
  refine go_cast dX12_init_685 (tk0 108 rfl sh108) (by unfold vp_in; decide) rfl ?_
  refine go_dup dX12_init_686 rfl ?_
  refine go_iconst (v := 1) dX12_init_687 rfl ?_
  refine go_bipush (v := 101) dX12_init_688 rfl ?_
  refine go_cast dX12_init_690 (tk0 108 rfl sh108) (by unfold vp_in; decide) rfl ?_
  refine go_dup dX12_init_691 rfl ?_
  refine go_iconst (v := 2) dX12_init_692 rfl ?_
  refine go_bipush (v := 97) dX12_init_693 rfl ?_
  refine go_cast dX12_init_695 (tk0 108 rfl sh108) (by unfold vp_in; decide) rfl ?_
  refine go_dup dX12_init_696 rfl ?_
  refine go_iconst (v := 3) dX12_init_697 rfl ?_
  refine go_bipush (v := 114) dX12_init_698 rfl ?_
  refine go_cast dX12_init_700 (tk0 108 rfl sh108) (by unfold vp_in; decide) rfl ?_
  refine go_putFR hin dX12_init_701 f12_90 (tk0 82 rfl sh82) (by first | exact Or.inl ⟨_, rfl⟩ | exact Or.inr ⟨_, rfl⟩) rfl rfl ?_
  refine go_aload_n (x := 82) dX12_init_704 rfl ?_
  refine go_bipush (v := 6) dX12_init_705 rfl ?_
  refine gt_newC sh109 dX12_init_707 rfl (by decide) (by decide) (Nat.le_of_ble_eq_true rfl) (Nat.le_of_ble_eq_true rfl) rfl ?_
  refine go_dup dX12_init_709 rfl ?_
  refine go_iconst (v := 0) dX12_init_710 rfl ?_
  refine go_bipush (v := 110) dX12_init_711 rfl ?_
  refine go_cast dX12_init_713 (tk0 109 rfl sh109) (by unfold vp_in; decide) rfl ?_
  refine go_dup dX12_init_714 rfl ?_
  refine go_iconst (v := 1) dX12_init_715 rfl ?_
  refine go_bipush (v := 117) dX12_init_716 rfl ?_
  refine go_cast dX12_init_718 (tk0 109 rfl sh109) (by unfold vp_in; decide) rfl ?_
  refine go_dup dX12_init_719 rfl ?_
  refine go_iconst (v := 2) dX12_init_720 rfl ?_
  refine go_bipush (v := 109) dX12_init_721 rfl ?_
  refine go_cast dX12_init_723 (tk0 109 rfl sh109) (by unfold vp_in; decide) rfl ?_
  refine go_dup dX12_init_724 rfl ?_
  refine go_iconst (v := 3) dX12_init_725 rfl ?_
  refine go_bipush (v := 98) dX12_init_726 rfl ?_
  refine go_cast dX12_init_728 (tk0 109 rfl sh109) (by unfold vp_in; decide) rfl ?_
  refine go_dup dX12_init_729 rfl ?_
  refine go_iconst (v := 4) dX12_init_730 rfl ?_
  refine go_bipush (v := 101) dX12_init_731 rfl ?_
  refine go_cast dX12_init_733 (tk0 109 rfl sh109) (by unfold vp_in; decide) rfl ?_
  refine go_dup dX12_init_734 rfl ?_
  refine go_iconst (v := 5) dX12_init_735 rfl ?_
  refine go_bipush (v := 114) dX12_init_736 rfl ?_
  refine go_cast dX12_init_738 (tk0 109 rfl sh109) (by unfold vp_in; decide) rfl ?_
  refine go_putFR hin dX12_init_739 f12_93 (tk0 82 rfl sh82) (by first | exact Or.inl ⟨_, rfl⟩ | exact Or.inr ⟨_, rfl⟩) rfl rfl ?_
  refine go_aload_n (x := 82) dX12_init_742 rfl ?_
  refine go_bipush (v := 6) dX12_init_743 rfl ?_
  refine gt_newC sh110 dX12_init_745 rfl (by decide) (by decide) (Nat.le_of_ble_eq_true rfl) (Nat.le_of_ble_eq_true rfl) rfl ?_
  refine go_dup dX12_init_747 rfl ?_
  refine go_iconst (v := 0) dX12_init_748 rfl ?_
  refine go_bipush (v := 97) dX12_init_749 rfl ?_
  refine go_cast dX12_init_751 (tk0 110 rfl sh110) (by unfold vp_in; decide) rfl ?_
  refine go_dup dX12_init_752 rfl ?_
  refine go_iconst (v := 1) dX12_init_753 rfl ?_
  refine go_bipush (v := 99) dX12_init_754 rfl ?_
  refine go_cast dX12_init_756 (tk0 110 rfl sh110) (by unfold vp_in; decide) rfl ?_
  refine go_dup dX12_init_757 rfl ?_
  refine go_iconst (v := 2) dX12_init_758 rfl ?_
  refine go_bipush (v := 114) dX12_init_759 rfl ?_
  refine go_cast dX12_init_761 (tk0 110 rfl sh110) (by unfold vp_in; decide) rfl ?_
  refine go_dup dX12_init_762 rfl ?_
  refine go_iconst (v := 3) dX12_init_763 rfl ?_
  refine go_bipush (v := 111) dX12_init_764 rfl ?_
  refine go_cast dX12_init_766 (tk0 110 rfl sh110) (by unfold vp_in; decide) rfl ?_
  refine go_dup dX12_init_767 rfl ?_
  refine go_iconst (v := 4) dX12_init_768 rfl ?_
  refine go_bipush (v := 115) dX12_init_769 rfl ?_
  refine go_cast dX12_init_771 (tk0 110 rfl sh110) (by unfold vp_in; decide) rfl ?_
  refine go_dup dX12_init_772 rfl ?_
  refine go_iconst (v := 5) dX12_init_773 rfl ?_
  refine go_bipush (v := 115) dX12_init_774 rfl ?_
  refine go_cast dX12_init_776 (tk0 110 rfl sh110) (by unfold vp_in; decide) rfl ?_
  refine go_putFR hin dX12_init_777 f12_96 (tk0 82 rfl sh82) (by first | exact Or.inl ⟨_, rfl⟩ | exact Or.inr ⟨_, rfl⟩) rfl rfl ?_
  refine go_aload_n (x := 82) dX12_init_780 rfl ?_
  refine go_iconst (v := 4) dX12_init_781 rfl ?_
  refine gt_newC sh111 dX12_init_782 rfl (by decide) (by decide) (Nat.le_of_ble_eq_true rfl) (Nat.le_of_ble_eq_true rfl) rfl ?_
  refine go_dup dX12_init_784 rfl ?_
  refine go_iconst (v := 0) dX12_init_785 rfl ?_
  refine go_bipush (v := 100) dX12_init_786 rfl ?_
  refine go_cast dX12_init_788 (tk0 111 rfl sh111) (by unfold vp_in; decide) rfl ?_
  refine go_dup dX12_init_789 rfl ?_
  refine go_iconst (v := 1) dX12_init_790 rfl ?_
  refine go_bipush (v := 111) dX12_init_791 rfl ?_
  refine go_cast dX12_init_793 (tk0 111 rfl sh111) (by unfold vp_in; decide) rfl ?_
  refine go_dup dX12_init_794 rfl ?_
  refine go_iconst (v := 2) dX12_init_795 rfl ?_
  refine go_bipush (v := 119) dX12_init_796 rfl ?_
  refine go_cast dX12_init_798 (tk0 111 rfl sh111) (by unfold vp_in; decide) rfl ?_
  refine go_dup dX12_init_799 rfl ?_
  refine go_iconst (v := 3) dX12_init_800 rfl ?_
  refine go_bipush (v := 110) dX12_init_801 rfl ?_
  refine go_cast dX12_init_803 (tk0 111 rfl sh111) (by unfold vp_in; decide) rfl ?_
  refine go_putFR hin dX12_init_804 f12_99 (tk0 82 rfl sh82) (by first | exact Or.inl ⟨_, rfl⟩ | exact Or.inr ⟨_, rfl⟩) rfl rfl ?_
  refine go_aload_n (x := 82) dX12_init_807 rfl ?_
  refine go_iconst (v := 5) dX12_init_808 rfl ?_
  refine gt_newC sh112 dX12_init_809 rfl (by decide) (by decide) (Nat.le_of_ble_eq_true rfl) (Nat.le_of_ble_eq_true rfl) rfl ?_
  refine go_dup dX12_init_811 rfl ?_
  refine go_iconst (v := 0) dX12_init_812 rfl ?_
  refine go_bipush (v := 98) dX12_init_813 rfl ?_
  refine go_cast dX12_init_815 (tk0 112 rfl sh112) (by unfold vp_in; decide) rfl ?_
  refine go_dup dX12_init_816 rfl ?_
  refine go_iconst (v := 1) dX12_init_817 rfl ?_
  refine go_bipush (v := 111) dX12_init_818 rfl ?_
  refine go_cast dX12_init_820 (tk0 112 rfl sh112) (by unfold vp_in; decide) rfl ?_
  refine go_dup dX12_init_821 rfl ?_
  refine go_iconst (v := 2) dX12_init_822 rfl ?_
  refine go_bipush (v := 97) dX12_init_823 rfl ?_
  refine go_cast dX12_init_825 (tk0 112 rfl sh112) (by unfold vp_in; decide) rfl ?_
  refine go_dup dX12_init_826 rfl ?_
  refine go_iconst (v := 3) dX12_init_827 rfl ?_
  refine go_bipush (v := 116) dX12_init_828 rfl ?_
  refine go_cast dX12_init_830 (tk0 112 rfl sh112) (by unfold vp_in; decide) rfl ?_
  refine go_dup dX12_init_831 rfl ?_
  refine go_iconst (v := 4) dX12_init_832 rfl ?_
  refine go_bipush (v := 115) dX12_init_833 rfl ?_
  refine go_cast dX12_init_835 (tk0 112 rfl sh112) (by unfold vp_in; decide) rfl ?_
  refine go_putFR hin dX12_init_836 f12_102 (tk0 82 rfl sh82) (by first | exact Or.inl ⟨_, rfl⟩ | exact Or.inr ⟨_, rfl⟩) rfl rfl ?_
  refine go_aload_n (x := 82) dX12_init_839 rfl ?_
  refine go_iconst (v := 2) dX12_init_840 rfl ?_
  refine gt_newC sh113 dX12_init_841 rfl (by decide) (by decide) (Nat.le_of_ble_eq_true rfl) (Nat.le_of_ble_eq_true rfl) rfl ?_
  refine go_dup dX12_init_843 rfl ?_
  refine go_iconst (v := 0) dX12_init_844 rfl ?_
  refine go_bipush (v := 111) dX12_init_845 rfl ?_
  refine go_cast dX12_init_847 (tk0 113 rfl sh113) (by unfold vp_in; decide) rfl ?_
  refine go_dup dX12_init_848 rfl ?_
  refine go_iconst (v := 1) dX12_init_849 rfl ?_
  refine go_bipush (v := 114) dX12_init_850 rfl ?_
  refine go_cast dX12_init_852 (tk0 113 rfl sh113) (by unfold vp_in; decide) rfl ?_
  refine go_putFR hin dX12_init_853 f12_105 (tk0 82 rfl sh82) (by first | exact Or.inl ⟨_, rfl⟩ | exact Or.inr ⟨_, rfl⟩) rfl rfl ?_
  refine go_aload_n (x := 82) dX12_init_856 rfl ?_
  refine go_iconst (v := 3) dX12_init_857 rfl ?_
  refine gt_newC sh114 dX12_init_858 rfl (by decide) (by decide) (Nat.le_of_ble_eq_true rfl) (Nat.le_of_ble_eq_true rfl) rfl ?_
  refine go_dup dX12_init_860 rfl ?_
  refine go_iconst (v := 0) dX12_init_861 rfl ?_
  refine go_bipush (v := 97) dX12_init_862 rfl ?_
  refine go_cast dX12_init_864 (tk0 114 rfl sh114) (by unfold vp_in; decide) rfl ?_
  refine go_dup dX12_init_865 rfl ?_
  refine go_iconst (v := 1) dX12_init_866 rfl ?_
  refine go_bipush (v := 110) dX12_init_867 rfl ?_
  refine go_cast dX12_init_869 (tk0 114 rfl sh114) (by unfold vp_in; decide) rfl ?_
  refine go_dup dX12_init_870 rfl ?_
  refine go_iconst (v := 2) dX12_init_871 rfl ?_
  refine go_bipush (v := 100) dX12_init_872 rfl ?_
  refine go_cast dX12_init_874 (tk0 114 rfl sh114) (by unfold vp_in; decide) rfl ?_
  refine go_putFR hin dX12_init_875 f12_108 (tk0 82 rfl sh82) (by first | exact Or.inl ⟨_, rfl⟩ | exact Or.inr ⟨_, rfl⟩) rfl rfl ?_
  refine go_aload_n (x := 82) dX12_init_878 rfl ?_
  refine go_iconst (v := 3) dX12_init_879 rfl ?_
  refine gt_newC sh115 dX12_init_880 rfl (by decide) (by decide) (Nat.le_of_ble_eq_true rfl) (Nat.le_of_ble_eq_true rfl) rfl ?_
  refine go_dup dX12_init_882 rfl ?_
  refine go_iconst (v := 0) dX12_init_883 rfl ?_
  refine go_bipush (v := 110) dX12_init_884 rfl ?_
  refine go_cast dX12_init_886 (tk0 115 rfl sh115) (by unfold vp_in; decide) rfl ?_
  refine go_dup dX12_init_887 rfl ?_
  refine go_iconst (v := 1) dX12_init_888 rfl ?_
  refine go_bipush (v := 111) dX12_init_889 rfl ?_
  refine go_cast dX12_init_891 (tk0 115 rfl sh115) (by unfold vp_in; decide) rfl ?_
  refine go_dup dX12_init_892 rfl ?_
  refine go_iconst (v := 2) dX12_init_893 rfl ?_
  refine go_bipush (v := 116) dX12_init_894 rfl ?_
  refine go_cast dX12_init_896 (tk0 115 rfl sh115) (by unfold vp_in; decide) rfl ?_
  refine go_putFR hin dX12_init_897 f12_111 (tk0 82 rfl sh82) (by first | exact Or.inl ⟨_, rfl⟩ | exact Or.inr ⟨_, rfl⟩) rfl rfl ?_
  refine go_aload_n (x := 82) dX12_init_900 rfl ?_
  refine go_iconst (v := 3) dX12_init_901 rfl ?_
  refine gt_newC sh116 dX12_init_902 rfl (by decide) (by decide) (Nat.le_of_ble_eq_true rfl) (Nat.le_of_ble_eq_true rfl) rfl ?_
  refine go_dup dX12_init_904 rfl ?_
  refine go_iconst (v := 0) dX12_init_905 rfl ?_
  refine go_bipush (v := 97) dX12_init_906 rfl ?_
  refine go_cast dX12_init_908 (tk0 116 rfl sh116) (by unfold vp_in; decide) rfl ?_
  refine go_dup dX12_init_909 rfl ?_
  refine go_iconst (v := 1) dX12_init_910 rfl ?_
  refine go_bipush (v := 108) dX12_init_911 rfl ?_
  refine go_cast dX12_init_913 (tk0 116 rfl sh116) (by unfold vp_in; decide) rfl ?_
  refine go_dup dX12_init_914 rfl ?_
  refine go_iconst (v := 2) dX12_init_915 rfl ?_
  refine go_bipush (v := 108) dX12_init_916 rfl ?_
  refine go_cast dX12_init_918 (tk0 116 rfl sh116) (by unfold vp_in; decide) rfl ?_
  refine go_putFR hin dX12_init_919 f12_114 (tk0 82 rfl sh82) (by first | exact Or.inl ⟨_, rfl⟩ | exact Or.inr ⟨_, rfl⟩) rfl rfl ?_
  refine go_aload_n (x := 82) dX12_init_922 rfl ?_
  refine go_iconst (v := 3) dX12_init_923 rfl ?_
  refine gt_newC sh117 dX12_init_924 rfl (by decide) (by decide) (Nat.le_of_ble_eq_true rfl) (Nat.le_of_ble_eq_true rfl) rfl ?_
  refine go_dup dX12_init_926 rfl ?_
  refine go_iconst (v := 0) dX12_init_927 rfl ?_
  refine go_bipush (v := 109) dX12_init_928 rfl ?_
  refine go_cast dX12_init_930 (tk0 117 rfl sh117) (by unfold vp_in; decide) rfl ?_
  refine go_dup dX12_init_931 rfl ?_
  refine go_iconst (v := 1) dX12_init_932 rfl ?_
  refine go_bipush (v := 105) dX12_init_933 rfl ?_
  refine go_cast dX12_init_935 (tk0 117 rfl sh117) (by unfold vp_in; decide) rfl ?_
  refine go_dup dX12_init_936 rfl ?_
  refine go_iconst (v := 2) dX12_init_937 rfl ?_
  refine go_bipush (v := 110) dX12_init_938 rfl ?_
  refine go_cast dX12_init_940 (tk0 117 rfl sh117) (by unfold vp_in; decide) rfl ?_
  refine go_putFR hin dX12_init_941 f12_117 (tk0 82 rfl sh82) (by first | exact Or.inl ⟨_, rfl⟩ | exact Or.inr ⟨_, rfl⟩) rfl rfl ?_
  refine go_aload_n (x := 82) dX12_init_944 rfl ?_
  refine go_iconst (v := 3) dX12_init_945 rfl ?_
  refine gt_newC sh118 dX12_init_946 rfl (by decide) (by decide) (Nat.le_of_ble_eq_true rfl) (Nat.le_of_ble_eq_true rfl) rfl ?_
  refine go_dup dX12_init_948 rfl ?_
  refine go_iconst (v := 0) dX12_init_949 rfl ?_
  refine go_bipush (v := 109) dX12_init_950 rfl ?_
  refine go_cast dX12_init_952 (tk0 118 rfl sh118) (by unfold vp_in; decide) rfl ?_
  refine go_dup dX12_init_953 rfl ?_
  refine go_iconst (v := 1) dX12_init_954 rfl ?_
  refine go_bipush (v := 97) dX12_init_955 rfl ?_
  refine go_cast dX12_init_957 (tk0 118 rfl sh118) (by unfold vp_in; decide) rfl ?_
  refine go_dup dX12_init_958 rfl ?_
  refine go_iconst (v := 2) dX12_init_959 rfl ?_
  refine go_bipush (v := 120) dX12_init_960 rfl ?_
  refine go_cast dX12_init_962 (tk0 118 rfl sh118) (by unfold vp_in; decide) rfl ?_
  refine go_putFR hin dX12_init_963 f12_120 (tk0 82 rfl sh82) (by first | exact Or.inl ⟨_, rfl⟩ | exact Or.inr ⟨_, rfl⟩) rfl rfl ?_
  refine go_aload_n (x := 82) dX12_init_966 rfl ?_
  refine go_bipush (v := 10) dX12_init_967 rfl ?_
  refine gt_newI sh119 dX12_init_969 rfl (by decide) (by decide) (Nat.le_of_ble_eq_true rfl) (Nat.le_of_ble_eq_true rfl) rfl ?_
  refine go_putFR hin dX12_init_971 f12_123 (tk0 82 rfl sh82) (by first | exact Or.inl ⟨_, rfl⟩ | exact Or.inr ⟨_, rfl⟩) rfl rfl ?_
  refine go_aload_n (x := 82) dX12_init_974 rfl ?_
  refine go_bipush (v := 24) dX12_init_975 rfl ?_
  refine gt_newL sh120 dX12_init_977 rfl (by decide) (by decide) (Nat.le_of_ble_eq_true rfl) (Nat.le_of_ble_eq_true rfl) rfl ?_
  refine go_putFR hin dX12_init_979 f12_126 (tk0 82 rfl sh82) (by first | exact Or.inl ⟨_, rfl⟩ | exact Or.inr ⟨_, rfl⟩) rfl rfl ?_
  refine go_aload_n (x := 82) dX12_init_982 rfl ?_
  refine go_bipush (v := 96) dX12_init_983 rfl ?_
  refine gt_newI sh121 dX12_init_985 rfl (by decide) (by decide) (Nat.le_of_ble_eq_true rfl) (Nat.le_of_ble_eq_true rfl) rfl ?_
  refine go_putFR hin dX12_init_987 f12_130 (tk0 82 rfl sh82) (by first | exact Or.inl ⟨_, rfl⟩ | exact Or.inr ⟨_, rfl⟩) rfl rfl ?_
  refine go_aload_n (x := 82) dX12_init_990 rfl ?_
  refine go_bipush (v := 24) dX12_init_991 rfl ?_
  refine gt_newI sh122 dX12_init_993 rfl (by decide) (by decide) (Nat.le_of_ble_eq_true rfl) (Nat.le_of_ble_eq_true rfl) rfl ?_
  refine go_putFR hin dX12_init_995 f12_133 (tk0 82 rfl sh82) (by first | exact Or.inl ⟨_, rfl⟩ | exact Or.inr ⟨_, rfl⟩) rfl rfl ?_
  refine go_aload_n (x := 82) dX12_init_998 rfl ?_
  refine go_bipush (v := 12) dX12_init_999 rfl ?_
  refine gt_newI sh123 dX12_init_1001 rfl (by decide) (by decide) (Nat.le_of_ble_eq_true rfl) (Nat.le_of_ble_eq_true rfl) rfl ?_
  refine go_putFR hin dX12_init_1003 f12_136 (tk0 82 rfl sh82) (by first | exact Or.inl ⟨_, rfl⟩ | exact Or.inr ⟨_, rfl⟩) rfl rfl ?_
  refine go_aload_n (x := 82) dX12_init_1006 rfl ?_
  refine go_bipush (v := 72) dX12_init_1007 rfl ?_
  refine gt_newI sh124 dX12_init_1009 rfl (by decide) (by decide) (Nat.le_of_ble_eq_true rfl) (Nat.le_of_ble_eq_true rfl) rfl ?_
  refine go_putFR hin dX12_init_1011 f12_139 (tk0 82 rfl sh82) (by first | exact Or.inl ⟨_, rfl⟩ | exact Or.inr ⟨_, rfl⟩) rfl rfl ?_
  refine go_aload_n (x := 82) dX12_init_1014 rfl ?_
  refine go_bipush (v := 40) dX12_init_1015 rfl ?_
  refine gt_newI sh125 dX12_init_1017 rfl (by decide) (by decide) (Nat.le_of_ble_eq_true rfl) (Nat.le_of_ble_eq_true rfl) rfl ?_
  refine go_putFR hin dX12_init_1019 f12_142 (tk0 82 rfl sh82) (by first | exact Or.inl ⟨_, rfl⟩ | exact Or.inr ⟨_, rfl⟩) rfl rfl ?_
  refine go_aload_n (x := 82) dX12_init_1022 rfl ?_
  refine go_iconst (v := 2) dX12_init_1023 rfl ?_
  refine gt_newI sh126 dX12_init_1024 rfl (by decide) (by decide) (Nat.le_of_ble_eq_true rfl) (Nat.le_of_ble_eq_true rfl) rfl ?_
  refine go_dup dX12_init_1026 rfl ?_
  refine go_iconst (v := 0) dX12_init_1027 rfl ?_
  refine go_iconst (v := 5) dX12_init_1028 rfl ?_
  refine go_iast dX12_init_1029 (tk0 126 rfl sh126) (by unfold vp_in; decide) ?_
  refine go_dup dX12_init_1030 rfl ?_
  refine go_iconst (v := 1) dX12_init_1031 rfl ?_
  refine go_iconst (v := 5) dX12_init_1032 rfl ?_
  refine go_iast dX12_init_1033 (tk0 126 rfl sh126) (by unfold vp_in; decide) ?_
  refine go_putFR hin dX12_init_1034 f12_145 (tk0 82 rfl sh82) (by first | exact Or.inl ⟨_, rfl⟩ | exact Or.inr ⟨_, rfl⟩) rfl rfl ?_
  refine go_aload_n (x := 82) dX12_init_1037 rfl ?_
  refine go_bipush (v := 6) dX12_init_1038 rfl ?_
  refine gt_newI sh127 dX12_init_1040 rfl (by decide) (by decide) (Nat.le_of_ble_eq_true rfl) (Nat.le_of_ble_eq_true rfl) rfl ?_
  refine go_dup dX12_init_1042 rfl ?_
  refine go_iconst (v := 0) dX12_init_1043 rfl ?_
  refine go_iconst (v := (-1)) dX12_init_1044 rfl ?_
  refine go_iast dX12_init_1045 (tk0 127 rfl sh127) (by unfold vp_in; decide) ?_
  refine go_dup dX12_init_1046 rfl ?_
  refine go_iconst (v := 1) dX12_init_1047 rfl ?_
  refine go_iconst (v := (-1)) dX12_init_1048 rfl ?_
  refine go_iast dX12_init_1049 (tk0 127 rfl sh127) (by unfold vp_in; decide) ?_
  refine go_dup dX12_init_1050 rfl ?_
  refine go_iconst (v := 2) dX12_init_1051 rfl ?_
  refine go_iconst (v := (-1)) dX12_init_1052 rfl ?_
  refine go_iast dX12_init_1053 (tk0 127 rfl sh127) (by unfold vp_in; decide) ?_
  refine go_dup dX12_init_1054 rfl ?_
  refine go_iconst (v := 3) dX12_init_1055 rfl ?_
  refine go_iconst (v := (-1)) dX12_init_1056 rfl ?_
  refine go_iast dX12_init_1057 (tk0 127 rfl sh127) (by unfold vp_in; decide) ?_
  refine go_dup dX12_init_1058 rfl ?_
  refine go_iconst (v := 4) dX12_init_1059 rfl ?_
  refine go_iconst (v := (-1)) dX12_init_1060 rfl ?_
  refine go_iast dX12_init_1061 (tk0 127 rfl sh127) (by unfold vp_in; decide) ?_
  refine go_dup dX12_init_1062 rfl ?_
  refine go_iconst (v := 5) dX12_init_1063 rfl ?_
  refine go_iconst (v := (-1)) dX12_init_1064 rfl ?_
  refine go_iast dX12_init_1065 (tk0 127 rfl sh127) (by unfold vp_in; decide) ?_
  refine go_putFR hin dX12_init_1066 f12_148 (tk0 82 rfl sh82) (by first | exact Or.inl ⟨_, rfl⟩ | exact Or.inr ⟨_, rfl⟩) rfl rfl ?_
  refine go_aload_n (x := 82) dX12_init_1069 rfl ?_
  refine go_bipush (v := 6) dX12_init_1070 rfl ?_
  refine gt_newI sh128 dX12_init_1072 rfl (by decide) (by decide) (Nat.le_of_ble_eq_true rfl) (Nat.le_of_ble_eq_true rfl) rfl ?_
  refine go_putFR hin dX12_init_1074 f12_151 (tk0 82 rfl sh82) (by first | exact Or.inl ⟨_, rfl⟩ | exact Or.inr ⟨_, rfl⟩) rfl rfl ?_
  refine go_aload_n (x := 82) dX12_init_1077 rfl ?_
  refine go_sipush (v := 3200) dX12_init_1078 rfl ?_
  refine gt_newI sh129 dX12_init_1081 rfl (by decide) (by decide) (Nat.le_of_ble_eq_true rfl) (Nat.le_of_ble_eq_true rfl) rfl ?_
  refine go_putFR hin dX12_init_1083 f12_154 (tk0 82 rfl sh82) (by first | exact Or.inl ⟨_, rfl⟩ | exact Or.inr ⟨_, rfl⟩) rfl rfl ?_
  refine go_aload_n (x := 82) dX12_init_1086 rfl ?_
  refine go_sipush (v := 1700) dX12_init_1087 rfl ?_
  refine gt_newI sh130 dX12_init_1090 rfl (by decide) (by decide) (Nat.le_of_ble_eq_true rfl) (Nat.le_of_ble_eq_true rfl) rfl ?_
  refine go_putFR hin dX12_init_1092 f12_157 (tk0 82 rfl sh82) (by first | exact Or.inl ⟨_, rfl⟩ | exact Or.inr ⟨_, rfl⟩) rfl rfl ?_
  refine go_aload_n (x := 82) dX12_init_1095 rfl ?_
  refine go_sipush (v := 1700) dX12_init_1096 rfl ?_
  refine gt_newL sh131 dX12_init_1099 rfl (by decide) (by decide) (Nat.le_of_ble_eq_true rfl) (Nat.le_of_ble_eq_true rfl) rfl ?_
  refine go_putFR hin dX12_init_1101 f12_160 (tk0 82 rfl sh82) (by first | exact Or.inl ⟨_, rfl⟩ | exact Or.inr ⟨_, rfl⟩) rfl rfl ?_
  refine go_aload_n (x := 82) dX12_init_1104 rfl ?_
  refine go_bipush (v := 10) dX12_init_1105 rfl ?_
  refine gt_newI sh132 dX12_init_1107 rfl (by decide) (by decide) (Nat.le_of_ble_eq_true rfl) (Nat.le_of_ble_eq_true rfl) rfl ?_
  refine go_putFR hin dX12_init_1109 f12_163 (tk0 82 rfl sh82) (by first | exact Or.inl ⟨_, rfl⟩ | exact Or.inr ⟨_, rfl⟩) rfl rfl ?_
  refine go_aload_n (x := 82) dX12_init_1112 rfl ?_
  refine go_sipush (v := 187) dX12_init_1113 rfl ?_
  refine gt_newI sh133 dX12_init_1116 rfl (by decide) (by decide) (Nat.le_of_ble_eq_true rfl) (Nat.le_of_ble_eq_true rfl) rfl ?_
  refine go_putFR hin dX12_init_1118 f12_166 (tk0 82 rfl sh82) (by first | exact Or.inl ⟨_, rfl⟩ | exact Or.inr ⟨_, rfl⟩) rfl rfl ?_
  refine go_aload_n (x := 82) dX12_init_1121 rfl ?_
  refine go_sipush (v := 187) dX12_init_1122 rfl ?_
  refine gt_newI sh134 dX12_init_1125 rfl (by decide) (by decide) (Nat.le_of_ble_eq_true rfl) (Nat.le_of_ble_eq_true rfl) rfl ?_
  refine go_putFR hin dX12_init_1127 f12_169 (tk0 82 rfl sh82) (by first | exact Or.inl ⟨_, rfl⟩ | exact Or.inr ⟨_, rfl⟩) rfl rfl ?_
  refine go_aload_n (x := 82) dX12_init_1130 rfl ?_
  refine go_bipush (v := 48) dX12_init_1131 rfl ?_
  refine gt_newI sh135 dX12_init_1133 rfl (by decide) (by decide) (Nat.le_of_ble_eq_true rfl) (Nat.le_of_ble_eq_true rfl) rfl ?_
  refine go_putFR hin dX12_init_1135 f12_172 (tk0 82 rfl sh82) (by first | exact Or.inl ⟨_, rfl⟩ | exact Or.inr ⟨_, rfl⟩) rfl rfl ?_
  refine go_aload_n (x := 82) dX12_init_1138 rfl ?_
  refine go_bipush (v := 48) dX12_init_1139 rfl ?_
  refine gt_newI sh136 dX12_init_1141 rfl (by decide) (by decide) (Nat.le_of_ble_eq_true rfl) (Nat.le_of_ble_eq_true rfl) rfl ?_
  refine go_putFR hin dX12_init_1143 f12_175 (tk0 82 rfl sh82) (by first | exact Or.inl ⟨_, rfl⟩ | exact Or.inr ⟨_, rfl⟩) rfl rfl ?_
  refine go_aload_n (x := 82) dX12_init_1146 rfl ?_
  refine go_bipush (v := 6) dX12_init_1147 rfl ?_
  refine gt_newI sh137 dX12_init_1149 rfl (by decide) (by decide) (Nat.le_of_ble_eq_true rfl) (Nat.le_of_ble_eq_true rfl) rfl ?_
  refine go_putFR hin dX12_init_1151 f12_178 (tk0 82 rfl sh82) (by first | exact Or.inl ⟨_, rfl⟩ | exact Or.inr ⟨_, rfl⟩) rfl rfl ?_
  refine go_aload_n (x := 82) dX12_init_1154 rfl ?_
  refine go_bipush (v := 6) dX12_init_1155 rfl ?_
  refine gt_newI sh138 dX12_init_1157 rfl (by decide) (by decide) (Nat.le_of_ble_eq_true rfl) (Nat.le_of_ble_eq_true rfl) rfl ?_
  refine go_putFR hin dX12_init_1159 f12_181 (tk0 82 rfl sh82) (by first | exact Or.inl ⟨_, rfl⟩ | exact Or.inr ⟨_, rfl⟩) rfl rfl ?_
  refine go_aload_n (x := 82) dX12_init_1162 rfl ?_
  refine go_bipush (v := 6) dX12_init_1163 rfl ?_
  refine gt_newI sh139 dX12_init_1165 rfl (by decide) (by decide) (Nat.le_of_ble_eq_true rfl) (Nat.le_of_ble_eq_true rfl) rfl ?_
  refine go_putFR hin dX12_init_1167 f12_184 (tk0 82 rfl sh82) (by first | exact Or.inl ⟨_, rfl⟩ | exact Or.inr ⟨_, rfl⟩) rfl rfl ?_
  refine go_aload_n (x := 82) dX12_init_1170 rfl ?_
  refine go_bipush (v := 6) dX12_init_1171 rfl ?_
  refine gt_newI sh140 dX12_init_1173 rfl (by decide) (by decide) (Nat.le_of_ble_eq_true rfl) (Nat.le_of_ble_eq_true rfl) rfl ?_
  refine go_putFR hin dX12_init_1175 f12_187 (tk0 82 rfl sh82) (by first | exact Or.inl ⟨_, rfl⟩ | exact Or.inr ⟨_, rfl⟩) rfl rfl ?_
  refine go_aload_n (x := 82) dX12_init_1178 rfl ?_
  refine go_bipush (v := 40) dX12_init_1179 rfl ?_
  refine gt_newI sh141 dX12_init_1181 rfl (by decide) (by decide) (Nat.le_of_ble_eq_true rfl) (Nat.le_of_ble_eq_true rfl) rfl ?_
  refine go_putFR hin dX12_init_1183 f12_190 (tk0 82 rfl sh82) (by first | exact Or.inl ⟨_, rfl⟩ | exact Or.inr ⟨_, rfl⟩) rfl rfl ?_
  refine go_aload_n (x := 82) dX12_init_1186 rfl ?_
  refine go_sipush (v := 3740) dX12_init_1187 rfl ?_
  refine gt_newI sh142 dX12_init_1190 rfl (by decide) (by decide) (Nat.le_of_ble_eq_true rfl) (Nat.le_of_ble_eq_true rfl) rfl ?_
  refine go_putFR hin dX12_init_1192 f12_193 (tk0 82 rfl sh82) (by first | exact Or.inl ⟨_, rfl⟩ | exact Or.inr ⟨_, rfl⟩) rfl rfl ?_
  refine go_aload_n (x := 82) dX12_init_1195 rfl ?_
  refine go_lconst (v := 1) dX12_init_1196 rfl ?_
  refine go_putL dX12_init_1197 f12_196 (tk0 82 rfl sh82) rfl rfl ?_
  refine go_aload_n (x := 82) dX12_init_1200 rfl ?_
  refine go_iconst (v := 5) dX12_init_1201 rfl ?_
  refine gt_newC sh143 dX12_init_1202 rfl (by decide) (by decide) (Nat.le_of_ble_eq_true rfl) (Nat.le_of_ble_eq_true rfl) rfl ?_
  refine go_dup dX12_init_1204 rfl ?_
  refine go_iconst (v := 0) dX12_init_1205 rfl ?_
  refine go_bipush (v := 102) dX12_init_1206 rfl ?_
  refine go_cast dX12_init_1208 (tk0 143 rfl sh143) (by unfold vp_in; decide) rfl ?_
  refine go_dup dX12_init_1209 rfl ?_
  refine go_iconst (v := 1) dX12_init_1210 rfl ?_
  refine go_bipush (v := 105) dX12_init_1211 rfl ?_
  refine go_cast dX12_init_1213 (tk0 143 rfl sh143) (by unfold vp_in; decide) rfl ?_
  refine go_dup dX12_init_1214 rfl ?_
  refine go_iconst (v := 2) dX12_init_1215 rfl ?_
  refine go_bipush (v := 114) dX12_init_1216 rfl ?_
  refine go_cast dX12_init_1218 (tk0 143 rfl sh143) (by unfold vp_in; decide) rfl ?_
  refine go_dup dX12_init_1219 rfl ?_
  refine go_iconst (v := 3) dX12_init_1220 rfl ?_
  refine go_bipush (v := 115) dX12_init_1221 rfl ?_
  refine go_cast dX12_init_1223 (tk0 143 rfl sh143) (by unfold vp_in; decide) rfl ?_
  refine go_dup dX12_init_1224 rfl ?_
  refine go_iconst (v := 4) dX12_init_1225 rfl ?_
  refine go_bipush (v := 116) dX12_init_1226 rfl ?_
  refine go_cast dX12_init_1228 (tk0 143 rfl sh143) (by unfold vp_in; decide) rfl ?_
  refine go_putFR hin dX12_init_1229 f12_200 (tk0 82 rfl sh82) (by first | exact Or.inl ⟨_, rfl⟩ | exact Or.inr ⟨_, rfl⟩) rfl rfl ?_
  refine go_aload_n (x := 82) dX12_init_1232 rfl ?_
  refine go_iconst (v := 4) dX12_init_1233 rfl ?_
  refine gt_newC sh144 dX12_init_1234 rfl (by decide) (by decide) (Nat.le_of_ble_eq_true rfl) (Nat.le_of_ble_eq_true rfl) rfl ?_
  refine go_dup dX12_init_1236 rfl ?_
  refine go_iconst (v := 0) dX12_init_1237 rfl ?_
  refine go_bipush (v := 108) dX12_init_1238 rfl ?_
  refine go_cast dX12_init_1240 (tk0 144 rfl sh144) (by unfold vp_in; decide) rfl ?_
  refine go_dup dX12_init_1241 rfl ?_
  refine go_iconst (v := 1) dX12_init_1242 rfl ?_
  refine go_bipush (v := 97) dX12_init_1243 rfl ?_
  refine go_cast dX12_init_1245 (tk0 144 rfl sh144) (by unfold vp_in; decide) rfl ?_
  refine go_dup dX12_init_1246 rfl ?_
  refine go_iconst (v := 2) dX12_init_1247 rfl ?_
  refine go_bipush (v := 115) dX12_init_1248 rfl ?_
  refine go_cast dX12_init_1250 (tk0 144 rfl sh144) (by unfold vp_in; decide) rfl ?_
  refine go_dup dX12_init_1251 rfl ?_
  refine go_iconst (v := 3) dX12_init_1252 rfl ?_
  refine go_bipush (v := 116) dX12_init_1253 rfl ?_
  refine go_cast dX12_init_1255 (tk0 144 rfl sh144) (by unfold vp_in; decide) rfl ?_
  refine go_putFR hin dX12_init_1256 f12_203 (tk0 82 rfl sh82) (by first | exact Or.inl ⟨_, rfl⟩ | exact Or.inr ⟨_, rfl⟩) rfl rfl ?_
  refine go_aload_n (x := 82) dX12_init_1259 rfl ?_
  refine go_iconst (v := 5) dX12_init_1260 rfl ?_
  refine gt_newC sh145 dX12_init_1261 rfl (by decide) (by decide) (Nat.le_of_ble_eq_true rfl) (Nat.le_of_ble_eq_true rfl) rfl ?_
  refine go_dup dX12_init_1263 rfl ?_
  refine go_iconst (v := 0) dX12_init_1264 rfl ?_
  refine go_bipush (v := 111) dX12_init_1265 rfl ?_
  refine go_cast dX12_init_1267 (tk0 145 rfl sh145) (by unfold vp_in; decide) rfl ?_
  refine go_dup dX12_init_1268 rfl ?_
  refine go_iconst (v := 1) dX12_init_1269 rfl ?_
  refine go_bipush (v := 102) dX12_init_1270 rfl ?_
  refine go_cast dX12_init_1272 (tk0 145 rfl sh145) (by unfold vp_in; decide) rfl ?_
  refine go_dup dX12_init_1273 rfl ?_
  refine go_iconst (v := 2) dX12_init_1274 rfl ?_
  refine go_bipush (v := 116) dX12_init_1275 rfl ?_
  refine go_cast dX12_init_1277 (tk0 145 rfl sh145) (by unfold vp_in; decide) rfl ?_
  refine go_dup dX12_init_1278 rfl ?_
  refine go_iconst (v := 3) dX12_init_1279 rfl ?_
  refine go_bipush (v := 101) dX12_init_1280 rfl ?_
  refine go_cast dX12_init_1282 (tk0 145 rfl sh145) (by unfold vp_in; decide) rfl ?_
  refine go_dup dX12_init_1283 rfl ?_
  refine go_iconst (v := 4) dX12_init_1284 rfl ?_
  refine go_bipush (v := 110) dX12_init_1285 rfl ?_
  refine go_cast dX12_init_1287 (tk0 145 rfl sh145) (by unfold vp_in; decide) rfl ?_
  refine go_putFR hin dX12_init_1288 f12_206 (tk0 82 rfl sh82) (by first | exact Or.inl ⟨_, rfl⟩ | exact Or.inr ⟨_, rfl⟩) rfl rfl ?_
  refine go_aload_n (x := 82) dX12_init_1291 rfl ?_
  refine go_iconst (v := 5) dX12_init_1292 rfl ?_
  refine gt_newC sh146 dX12_init_1293 rfl (by decide) (by decide) (Nat.le_of_ble_eq_true rfl) (Nat.le_of_ble_eq_true rfl) rfl ?_
  refine go_dup dX12_init_1295 rfl ?_
  refine go_iconst (v := 0) dX12_init_1296 rfl ?_
  refine go_bipush (v := 116) dX12_init_1297 rfl ?_
  refine go_cast dX12_init_1299 (tk0 146 rfl sh146) (by unfold vp_in; decide) rfl ?_
  refine go_dup dX12_init_1300 rfl ?_
  refine go_iconst (v := 1) dX12_init_1301 rfl ?_
  refine go_bipush (v := 111) dX12_init_1302 rfl ?_
  refine go_cast dX12_init_1304 (tk0 146 rfl sh146) (by unfold vp_in; decide) rfl ?_
  refine go_dup dX12_init_1305 rfl ?_
  refine go_iconst (v := 2) dX12_init_1306 rfl ?_
  refine go_bipush (v := 116) dX12_init_1307 rfl ?_
  refine go_cast dX12_init_1309 (tk0 146 rfl sh146) (by unfold vp_in; decide) rfl ?_
  refine go_dup dX12_init_1310 rfl ?_
  refine go_iconst (v := 3) dX12_init_1311 rfl ?_
  refine go_bipush (v := 97) dX12_init_1312 rfl ?_
  refine go_cast dX12_init_1314 (tk0 146 rfl sh146) (by unfold vp_in; decide) rfl ?_
  refine go_dup dX12_init_1315 rfl ?_
  refine go_iconst (v := 4) dX12_init_1316 rfl ?_
  refine go_bipush (v := 108) dX12_init_1317 rfl ?_
  refine go_cast dX12_init_1319 (tk0 146 rfl sh146) (by unfold vp_in; decide) rfl ?_
  refine go_putFR hin dX12_init_1320 f12_209 (tk0 82 rfl sh82) (by first | exact Or.inl ⟨_, rfl⟩ | exact Or.inr ⟨_, rfl⟩) rfl rfl ?_
  refine go_aload_n (x := 82) dX12_init_1323 rfl ?_
  refine go_iconst (v := 4) dX12_init_1324 rfl ?_
  refine gt_newC sh147 dX12_init_1325 rfl (by decide) (by decide) (Nat.le_of_ble_eq_true rfl) (Nat.le_of_ble_eq_true rfl) rfl ?_
  refine go_dup dX12_init_1327 rfl ?_
  refine go_iconst (v := 0) dX12_init_1328 rfl ?_
  refine go_bipush (v := 109) dX12_init_1329 rfl ?_
  refine go_cast dX12_init_1331 (tk0 147 rfl sh147) (by unfold vp_in; decide) rfl ?_
  refine go_dup dX12_init_1332 rfl ?_
  refine go_iconst (v := 1) dX12_init_1333 rfl ?_
  refine go_bipush (v := 111) dX12_init_1334 rfl ?_
  refine go_cast dX12_init_1336 (tk0 147 rfl sh147) (by unfold vp_in; decide) rfl ?_
  refine go_dup dX12_init_1337 rfl ?_
  refine go_iconst (v := 2) dX12_init_1338 rfl ?_
  refine go_bipush (v := 115) dX12_init_1339 rfl ?_
  refine go_cast dX12_init_1341 (tk0 147 rfl sh147) (by unfold vp_in; decide) rfl ?_
  refine go_dup dX12_init_1342 rfl ?_
  refine go_iconst (v := 3) dX12_init_1343 rfl ?_
  refine go_bipush (v := 116) dX12_init_1344 rfl ?_
  refine go_cast dX12_init_1346 (tk0 147 rfl sh147) (by unfold vp_in; decide) rfl ?_
  refine go_putFR hin dX12_init_1347 f12_212 (tk0 82 rfl sh82) (by first | exact Or.inl ⟨_, rfl⟩ | exact Or.inr ⟨_, rfl⟩) rfl rfl ?_
  refine go_aload_n (x := 82) dX12_init_1350 rfl ?_
  refine go_iconst (v := 5) dX12_init_1351 rfl ?_
  refine gt_newC sh148 dX12_init_1352 rfl (by decide) (by decide) (Nat.le_of_ble_eq_true rfl) (Nat.le_of_ble_eq_true rfl) rfl ?_
  refine go_dup dX12_init_1354 rfl ?_
  refine go_iconst (v := 0) dX12_init_1355 rfl ?_
  refine go_bipush (v := 108) dX12_init_1356 rfl ?_
  refine go_cast dX12_init_1358 (tk0 148 rfl sh148) (by unfold vp_in; decide) rfl ?_
  refine go_dup dX12_init_1359 rfl ?_
  refine go_iconst (v := 1) dX12_init_1360 rfl ?_
  refine go_bipush (v := 101) dX12_init_1361 rfl ?_
  refine go_cast dX12_init_1363 (tk0 148 rfl sh148) (by unfold vp_in; decide) rfl ?_
  refine go_dup dX12_init_1364 rfl ?_
  refine go_iconst (v := 2) dX12_init_1365 rfl ?_
  refine go_bipush (v := 97) dX12_init_1366 rfl ?_
  refine go_cast dX12_init_1368 (tk0 148 rfl sh148) (by unfold vp_in; decide) rfl ?_
  refine go_dup dX12_init_1369 rfl ?_
  refine go_iconst (v := 3) dX12_init_1370 rfl ?_
  refine go_bipush (v := 115) dX12_init_1371 rfl ?_
  refine go_cast dX12_init_1373 (tk0 148 rfl sh148) (by unfold vp_in; decide) rfl ?_
  refine go_dup dX12_init_1374 rfl ?_
  refine go_iconst (v := 4) dX12_init_1375 rfl ?_
  refine go_bipush (v := 116) dX12_init_1376 rfl ?_
  refine go_cast dX12_init_1378 (tk0 148 rfl sh148) (by unfold vp_in; decide) rfl ?_
  refine go_putFR hin dX12_init_1379 f12_215 (tk0 82 rfl sh82) (by first | exact Or.inl ⟨_, rfl⟩ | exact Or.inr ⟨_, rfl⟩) rfl rfl ?_
  refine go_aload_n (x := 82) dX12_init_1382 rfl ?_
  refine go_iconst (v := 3) dX12_init_1383 rfl ?_
  refine gt_newC sh149 dX12_init_1384 rfl (by decide) (by decide) (Nat.le_of_ble_eq_true rfl) (Nat.le_of_ble_eq_true rfl) rfl ?_
  refine go_dup dX12_init_1386 rfl ?_
  refine go_iconst (v := 0) dX12_init_1387 rfl ?_
  refine go_bipush (v := 110) dX12_init_1388 rfl ?_
  refine go_cast dX12_init_1390 (tk0 149 rfl sh149) (by unfold vp_in; decide) rfl ?_
  refine go_dup dX12_init_1391 rfl ?_
  refine go_iconst (v := 1) dX12_init_1392 rfl ?_
  refine go_bipush (v := 111) dX12_init_1393 rfl ?_
  refine go_cast dX12_init_1395 (tk0 149 rfl sh149) (by unfold vp_in; decide) rfl ?_
  refine go_dup dX12_init_1396 rfl ?_
  refine go_iconst (v := 2) dX12_init_1397 rfl ?_
  refine go_bipush (v := 116) dX12_init_1398 rfl ?_
  refine go_cast dX12_init_1400 (tk0 149 rfl sh149) (by unfold vp_in; decide) rfl ?_
  refine go_putFR hin dX12_init_1401 f12_218 (tk0 82 rfl sh82) (by first | exact Or.inl ⟨_, rfl⟩ | exact Or.inr ⟨_, rfl⟩) rfl rfl ?_
  refine go_aload_n (x := 82) dX12_init_1404 rfl ?_
  refine go_iconst (v := 3) dX12_init_1405 rfl ?_
  refine gt_newC sh150 dX12_init_1406 rfl (by decide) (by decide) (Nat.le_of_ble_eq_true rfl) (Nat.le_of_ble_eq_true rfl) rfl ?_
  refine go_dup dX12_init_1408 rfl ?_
  refine go_iconst (v := 0) dX12_init_1409 rfl ?_
  refine go_bipush (v := 97) dX12_init_1410 rfl ?_
  refine go_cast dX12_init_1412 (tk0 150 rfl sh150) (by unfold vp_in; decide) rfl ?_
  refine go_dup dX12_init_1413 rfl ?_
  refine go_iconst (v := 1) dX12_init_1414 rfl ?_
  refine go_bipush (v := 110) dX12_init_1415 rfl ?_
  refine go_cast dX12_init_1417 (tk0 150 rfl sh150) (by unfold vp_in; decide) rfl ?_
  refine go_dup dX12_init_1418 rfl ?_
  refine go_iconst (v := 2) dX12_init_1419 rfl ?_
  refine go_bipush (v := 100) dX12_init_1420 rfl ?_
  refine go_cast dX12_init_1422 (tk0 150 rfl sh150) (by unfold vp_in; decide) rfl ?_
  refine go_putFR hin dX12_init_1423 f12_221 (tk0 82 rfl sh82) (by first | exact Or.inl ⟨_, rfl⟩ | exact Or.inr ⟨_, rfl⟩) rfl rfl ?_
  refine go_aload_n (x := 82) dX12_init_1426 rfl ?_
  refine go_iconst (v := 2) dX12_init_1427 rfl ?_
  refine gt_newC sh151 dX12_init_1428 rfl (by decide) (by decide) (Nat.le_of_ble_eq_true rfl) (Nat.le_of_ble_eq_true rfl) rfl ?_
  refine go_dup dX12_init_1430 rfl ?_
  refine go_iconst (v := 0) dX12_init_1431 rfl ?_
  refine go_bipush (v := 111) dX12_init_1432 rfl ?_
  refine go_cast dX12_init_1434 (tk0 151 rfl sh151) (by unfold vp_in; decide) rfl ?_
  refine go_dup dX12_init_1435 rfl ?_
  refine go_iconst (v := 1) dX12_init_1436 rfl ?_
  refine go_bipush (v := 114) dX12_init_1437 rfl ?_
  refine go_cast dX12_init_1439 (tk0 151 rfl sh151) (by unfold vp_in; decide) rfl ?_
  refine go_putFR hin dX12_init_1440 f12_224 (tk0 82 rfl sh82) (by first | exact Or.inl ⟨_, rfl⟩ | exact Or.inr ⟨_, rfl⟩) rfl rfl ?_
  refine go_aload_n (x := 82) dX12_init_1443 rfl ?_
  refine go_iconst (v := 3) dX12_init_1444 rfl ?_
  refine gt_newC sh152 dX12_init_1445 rfl (by decide) (by decide) (Nat.le_of_ble_eq_true rfl) (Nat.le_of_ble_eq_true rfl) rfl ?_
  refine go_dup dX12_init_1447 rfl ?_
  refine go_iconst (v := 0) dX12_init_1448 rfl ?_
  refine go_bipush (v := 97) dX12_init_1449 rfl ?_
  refine go_cast dX12_init_1451 (tk0 152 rfl sh152) (by unfold vp_in; decide) rfl ?_
  refine go_dup dX12_init_1452 rfl ?_
  refine go_iconst (v := 1) dX12_init_1453 rfl ?_
  refine go_bipush (v := 108) dX12_init_1454 rfl ?_
  refine go_cast dX12_init_1456 (tk0 152 rfl sh152) (by unfold vp_in; decide) rfl ?_
  refine go_dup dX12_init_1457 rfl ?_
  refine go_iconst (v := 2) dX12_init_1458 rfl ?_
  refine go_bipush (v := 108) dX12_init_1459 rfl ?_
  refine go_cast dX12_init_1461 (tk0 152 rfl sh152) (by unfold vp_in; decide) rfl ?_
  refine go_putFR hin dX12_init_1462 f12_227 (tk0 82 rfl sh82) (by first | exact Or.inl ⟨_, rfl⟩ | exact Or.inr ⟨_, rfl⟩) rfl rfl ?_
  refine go_aload_n (x := 82) dX12_init_1465 rfl ?_
  refine go_iconst (v := 3) dX12_init_1466 rfl ?_
  refine gt_newC sh153 dX12_init_1467 rfl (by decide) (by decide) (Nat.le_of_ble_eq_true rfl) (Nat.le_of_ble_eq_true rfl) rfl ?_
  refine go_dup dX12_init_1469 rfl ?_
  refine go_iconst (v := 0) dX12_init_1470 rfl ?_
  refine go_bipush (v := 109) dX12_init_1471 rfl ?_
  refine go_cast dX12_init_1473 (tk0 153 rfl sh153) (by unfold vp_in; decide) rfl ?_
  refine go_dup dX12_init_1474 rfl ?_
  refine go_iconst (v := 1) dX12_init_1475 rfl ?_
  refine go_bipush (v := 105) dX12_init_1476 rfl ?_
  refine go_cast dX12_init_1478 (tk0 153 rfl sh153) (by unfold vp_in; decide) rfl ?_
  refine go_dup dX12_init_1479 rfl ?_
  refine go_iconst (v := 2) dX12_init_1480 rfl ?_
  refine go_bipush (v := 110) dX12_init_1481 rfl ?_
  refine go_cast dX12_init_1483 (tk0 153 rfl sh153) (by unfold vp_in; decide) rfl ?_
  refine go_putFR hin dX12_init_1484 f12_230 (tk0 82 rfl sh82) (by first | exact Or.inl ⟨_, rfl⟩ | exact Or.inr ⟨_, rfl⟩) rfl rfl ?_
  refine go_aload_n (x := 82) dX12_init_1487 rfl ?_
  refine go_iconst (v := 3) dX12_init_1488 rfl ?_
  refine gt_newC sh154 dX12_init_1489 rfl (by decide) (by decide) (Nat.le_of_ble_eq_true rfl) (Nat.le_of_ble_eq_true rfl) rfl ?_
  refine go_dup dX12_init_1491 rfl ?_
  refine go_iconst (v := 0) dX12_init_1492 rfl ?_
  refine go_bipush (v := 109) dX12_init_1493 rfl ?_
  refine go_cast dX12_init_1495 (tk0 154 rfl sh154) (by unfold vp_in; decide) rfl ?_
  refine go_dup dX12_init_1496 rfl ?_
  refine go_iconst (v := 1) dX12_init_1497 rfl ?_
  refine go_bipush (v := 97) dX12_init_1498 rfl ?_
  refine go_cast dX12_init_1500 (tk0 154 rfl sh154) (by unfold vp_in; decide) rfl ?_
  refine go_dup dX12_init_1501 rfl ?_
  refine go_iconst (v := 2) dX12_init_1502 rfl ?_
  refine go_bipush (v := 120) dX12_init_1503 rfl ?_
  refine go_cast dX12_init_1505 (tk0 154 rfl sh154) (by unfold vp_in; decide) rfl ?_
  refine go_putFR hin dX12_init_1506 f12_233 (tk0 82 rfl sh82) (by first | exact Or.inl ⟨_, rfl⟩ | exact Or.inr ⟨_, rfl⟩) rfl rfl ?_
  refine go_aload_n (x := 82) dX12_init_1509 rfl ?_
  refine go_bipush (v := 6) dX12_init_1510 rfl ?_
  refine gt_newC sh155 dX12_init_1512 rfl (by decide) (by decide) (Nat.le_of_ble_eq_true rfl) (Nat.le_of_ble_eq_true rfl) rfl ?_
  refine go_dup dX12_init_1514 rfl ?_
  refine go_iconst (v := 0) dX12_init_1515 rfl ?_
  refine go_bipush (v := 110) dX12_init_1516 rfl ?_
  refine go_cast dX12_init_1518 (tk0 155 rfl sh155) (by unfold vp_in; decide) rfl ?_
  refine go_dup dX12_init_1519 rfl ?_
  refine go_iconst (v := 1) dX12_init_1520 rfl ?_
  refine go_bipush (v := 117) dX12_init_1521 rfl ?_
  refine go_cast dX12_init_1523 (tk0 155 rfl sh155) (by unfold vp_in; decide) rfl ?_
  refine go_dup dX12_init_1524 rfl ?_
  refine go_iconst (v := 2) dX12_init_1525 rfl ?_
  refine go_bipush (v := 109) dX12_init_1526 rfl ?_
  refine go_cast dX12_init_1528 (tk0 155 rfl sh155) (by unfold vp_in; decide) rfl ?_
  refine go_dup dX12_init_1529 rfl ?_
  refine go_iconst (v := 3) dX12_init_1530 rfl ?_
  refine go_bipush (v := 98) dX12_init_1531 rfl ?_
  refine go_cast dX12_init_1533 (tk0 155 rfl sh155) (by unfold vp_in; decide) rfl ?_
  refine go_dup dX12_init_1534 rfl ?_
  refine go_iconst (v := 4) dX12_init_1535 rfl ?_
  refine go_bipush (v := 101) dX12_init_1536 rfl ?_
  refine go_cast dX12_init_1538 (tk0 155 rfl sh155) (by unfold vp_in; decide) rfl ?_
  refine go_dup dX12_init_1539 rfl ?_
  refine go_iconst (v := 5) dX12_init_1540 rfl ?_
  refine go_bipush (v := 114) dX12_init_1541 rfl ?_
  refine go_cast dX12_init_1543 (tk0 155 rfl sh155) (by unfold vp_in; decide) rfl ?_
  refine go_putFR hin dX12_init_1544 f12_236 (tk0 82 rfl sh82) (by first | exact Or.inl ⟨_, rfl⟩ | exact Or.inr ⟨_, rfl⟩) rfl rfl ?_
  refine go_aload_n (x := 82) dX12_init_1547 rfl ?_
  refine go_bipush (v := 6) dX12_init_1548 rfl ?_
  refine gt_newC sh156 dX12_init_1550 rfl (by decide) (by decide) (Nat.le_of_ble_eq_true rfl) (Nat.le_of_ble_eq_true rfl) rfl ?_
  refine go_dup dX12_init_1552 rfl ?_
  refine go_iconst (v := 0) dX12_init_1553 rfl ?_
  refine go_bipush (v := 97) dX12_init_1554 rfl ?_
  refine go_cast dX12_init_1556 (tk0 156 rfl sh156) (by unfold vp_in; decide) rfl ?_
  refine go_dup dX12_init_1557 rfl ?_
  refine go_iconst (v := 1) dX12_init_1558 rfl ?_
  refine go_bipush (v := 99) dX12_init_1559 rfl ?_
  refine go_cast dX12_init_1561 (tk0 156 rfl sh156) (by unfold vp_in; decide) rfl ?_
  refine go_dup dX12_init_1562 rfl ?_
  refine go_iconst (v := 2) dX12_init_1563 rfl ?_
  refine go_bipush (v := 114) dX12_init_1564 rfl ?_
  refine go_cast dX12_init_1566 (tk0 156 rfl sh156) (by unfold vp_in; decide) rfl ?_
  refine go_dup dX12_init_1567 rfl ?_
  refine go_iconst (v := 3) dX12_init_1568 rfl ?_
  refine go_bipush (v := 111) dX12_init_1569 rfl ?_
  refine go_cast dX12_init_1571 (tk0 156 rfl sh156) (by unfold vp_in; decide) rfl ?_
  refine go_dup dX12_init_1572 rfl ?_
  refine go_iconst (v := 4) dX12_init_1573 rfl ?_
  refine go_bipush (v := 115) dX12_init_1574 rfl ?_
  refine go_cast dX12_init_1576 (tk0 156 rfl sh156) (by unfold vp_in; decide) rfl ?_
  refine go_dup dX12_init_1577 rfl ?_
  refine go_iconst (v := 5) dX12_init_1578 rfl ?_
  refine go_bipush (v := 115) dX12_init_1579 rfl ?_
  refine go_cast dX12_init_1581 (tk0 156 rfl sh156) (by unfold vp_in; decide) rfl ?_
  refine go_putFR hin dX12_init_1582 f12_239 (tk0 82 rfl sh82) (by first | exact Or.inl ⟨_, rfl⟩ | exact Or.inr ⟨_, rfl⟩) rfl rfl ?_
  refine go_aload_n (x := 82) dX12_init_1585 rfl ?_
  refine go_iconst (v := 4) dX12_init_1586 rfl ?_
  refine gt_newC sh157 dX12_init_1587 rfl (by decide) (by decide) (Nat.le_of_ble_eq_true rfl) (Nat.le_of_ble_eq_true rfl) rfl ?_
  refine go_dup dX12_init_1589 rfl ?_
  refine go_iconst (v := 0) dX12_init_1590 rfl ?_
  refine go_bipush (v := 100) dX12_init_1591 rfl ?_
  refine go_cast dX12_init_1593 (tk0 157 rfl sh157) (by unfold vp_in; decide) rfl ?_
  refine go_dup dX12_init_1594 rfl ?_
  refine go_iconst (v := 1) dX12_init_1595 rfl ?_
  refine go_bipush (v := 111) dX12_init_1596 rfl ?_
  refine go_cast dX12_init_1598 (tk0 157 rfl sh157) (by unfold vp_in; decide) rfl ?_
  refine go_dup dX12_init_1599 rfl ?_
  refine go_iconst (v := 2) dX12_init_1600 rfl ?_
  refine go_bipush (v := 119) dX12_init_1601 rfl ?_
  refine go_cast dX12_init_1603 (tk0 157 rfl sh157) (by unfold vp_in; decide) rfl ?_
  refine go_dup dX12_init_1604 rfl ?_
  refine go_iconst (v := 3) dX12_init_1605 rfl ?_
  refine go_bipush (v := 110) dX12_init_1606 rfl ?_
  refine go_cast dX12_init_1608 (tk0 157 rfl sh157) (by unfold vp_in; decide) rfl ?_
  refine go_putFR hin dX12_init_1609 f12_242 (tk0 82 rfl sh82) (by first | exact Or.inl ⟨_, rfl⟩ | exact Or.inr ⟨_, rfl⟩) rfl rfl ?_
  refine go_aload_n (x := 82) dX12_init_1612 rfl ?_
  refine go_iconst (v := 5) dX12_init_1613 rfl ?_
  refine gt_newC sh158 dX12_init_1614 rfl (by decide) (by decide) (Nat.le_of_ble_eq_true rfl) (Nat.le_of_ble_eq_true rfl) rfl ?_
  refine go_dup dX12_init_1616 rfl ?_
  refine go_iconst (v := 0) dX12_init_1617 rfl ?_
  refine go_bipush (v := 100) dX12_init_1618 rfl ?_
  refine go_cast dX12_init_1620 (tk0 158 rfl sh158) (by unfold vp_in; decide) rfl ?_
  refine go_dup dX12_init_1621 rfl ?_
  refine go_iconst (v := 1) dX12_init_1622 rfl ?_
  refine go_bipush (v := 101) dX12_init_1623 rfl ?_
  refine go_cast dX12_init_1625 (tk0 158 rfl sh158) (by unfold vp_in; decide) rfl ?_
  refine go_dup dX12_init_1626 rfl ?_
  refine go_iconst (v := 2) dX12_init_1627 rfl ?_
  refine go_bipush (v := 112) dX12_init_1628 rfl ?_
  refine go_cast dX12_init_1630 (tk0 158 rfl sh158) (by unfold vp_in; decide) rfl ?_
  refine go_dup dX12_init_1631 rfl ?_
  refine go_iconst (v := 3) dX12_init_1632 rfl ?_
  refine go_bipush (v := 116) dX12_init_1633 rfl ?_
  refine go_cast dX12_init_1635 (tk0 158 rfl sh158) (by unfold vp_in; decide) rfl ?_
  refine go_dup dX12_init_1636 rfl ?_
  refine go_iconst (v := 4) dX12_init_1637 rfl ?_
  refine go_bipush (v := 104) dX12_init_1638 rfl ?_
  refine go_cast dX12_init_1640 (tk0 158 rfl sh158) (by unfold vp_in; decide) rfl ?_
  refine go_putFR hin dX12_init_1641 f12_245 (tk0 82 rfl sh82) (by first | exact Or.inl ⟨_, rfl⟩ | exact Or.inr ⟨_, rfl⟩) rfl rfl ?_
  refine go_aload_n (x := 82) dX12_init_1644 rfl ?_
  refine go_iconst (v := 5) dX12_init_1645 rfl ?_
  refine gt_newC sh159 dX12_init_1646 rfl (by decide) (by decide) (Nat.le_of_ble_eq_true rfl) (Nat.le_of_ble_eq_true rfl) rfl ?_
  refine go_dup dX12_init_1648 rfl ?_
  refine go_iconst (v := 0) dX12_init_1649 rfl ?_
  refine go_bipush (v := 119) dX12_init_1650 rfl ?_
  refine go_cast dX12_init_1652 (tk0 159 rfl sh159) (by unfold vp_in; decide) rfl ?_
  refine go_dup dX12_init_1653 rfl ?_
  refine go_iconst (v := 1) dX12_init_1654 rfl ?_
  refine go_bipush (v := 114) dX12_init_1655 rfl ?_
  refine go_cast dX12_init_1657 (tk0 159 rfl sh159) (by unfold vp_in; decide) rfl ?_
  refine go_dup dX12_init_1658 rfl ?_
  refine go_iconst (v := 2) dX12_init_1659 rfl ?_
  refine go_bipush (v := 101) dX12_init_1660 rfl ?_
  refine go_cast dX12_init_1662 (tk0 159 rfl sh159) (by unfold vp_in; decide) rfl ?_
  refine go_dup dX12_init_1663 rfl ?_
  refine go_iconst (v := 3) dX12_init_1664 rfl ?_
  refine go_bipush (v := 99) dX12_init_1665 rfl ?_
  refine go_cast dX12_init_1667 (tk0 159 rfl sh159) (by unfold vp_in; decide) rfl ?_
  refine go_dup dX12_init_1668 rfl ?_
  refine go_iconst (v := 4) dX12_init_1669 rfl ?_
  refine go_bipush (v := 107) dX12_init_1670 rfl ?_
  refine go_cast dX12_init_1672 (tk0 159 rfl sh159) (by unfold vp_in; decide) rfl ?_
  refine go_putFR hin dX12_init_1673 f12_248 (tk0 82 rfl sh82) (by first | exact Or.inl ⟨_, rfl⟩ | exact Or.inr ⟨_, rfl⟩) rfl rfl ?_
  refine go_aload_n (x := 82) dX12_init_1676 rfl ?_
  refine go_iconst (v := 4) dX12_init_1677 rfl ?_
  refine gt_newC sh160 dX12_init_1678 rfl (by decide) (by decide) (Nat.le_of_ble_eq_true rfl) (Nat.le_of_ble_eq_true rfl) rfl ?_
  refine go_dup dX12_init_1680 rfl ?_
  refine go_iconst (v := 0) dX12_init_1681 rfl ?_
  refine go_bipush (v := 104) dX12_init_1682 rfl ?_
  refine go_cast dX12_init_1684 (tk0 160 rfl sh160) (by unfold vp_in; decide) rfl ?_
  refine go_dup dX12_init_1685 rfl ?_
  refine go_iconst (v := 1) dX12_init_1686 rfl ?_
  refine go_bipush (v := 111) dX12_init_1687 rfl ?_
  refine go_cast dX12_init_1689 (tk0 160 rfl sh160) (by unfold vp_in; decide) rfl ?_
  refine go_dup dX12_init_1690 rfl ?_
  refine go_iconst (v := 2) dX12_init_1691 rfl ?_
  refine go_bipush (v := 109) dX12_init_1692 rfl ?_
  refine go_cast dX12_init_1694 (tk0 160 rfl sh160) (by unfold vp_in; decide) rfl ?_
  refine go_dup dX12_init_1695 rfl ?_
  refine go_iconst (v := 3) dX12_init_1696 rfl ?_
  refine go_bipush (v := 101) dX12_init_1697 rfl ?_
  refine go_cast dX12_init_1699 (tk0 160 rfl sh160) (by unfold vp_in; decide) rfl ?_
  refine go_putFR hin dX12_init_1700 f12_251 (tk0 82 rfl sh82) (by first | exact Or.inl ⟨_, rfl⟩ | exact Or.inr ⟨_, rfl⟩) rfl rfl ?_
  refine go_aload_n (x := 82) dX12_init_1703 rfl ?_
  refine go_iconst (v := 5) dX12_init_1704 rfl ?_
  refine gt_newC sh161 dX12_init_1705 rfl (by decide) (by decide) (Nat.le_of_ble_eq_true rfl) (Nat.le_of_ble_eq_true rfl) rfl ?_
  refine go_dup dX12_init_1707 rfl ?_
  refine go_iconst (v := 0) dX12_init_1708 rfl ?_
  refine go_bipush (v := 100) dX12_init_1709 rfl ?_
  refine go_cast dX12_init_1711 (tk0 161 rfl sh161) (by unfold vp_in; decide) rfl ?_
  refine go_dup dX12_init_1712 rfl ?_
  refine go_iconst (v := 1) dX12_init_1713 rfl ?_
  refine go_bipush (v := 114) dX12_init_1714 rfl ?_
  refine go_cast dX12_init_1716 (tk0 161 rfl sh161) (by unfold vp_in; decide) rfl ?_
  refine go_dup dX12_init_1717 rfl ?_
  refine go_iconst (v := 2) dX12_init_1718 rfl ?_
  refine go_bipush (v := 101) dX12_init_1719 rfl ?_
  refine go_cast dX12_init_1721 (tk0 161 rfl sh161) (by unfold vp_in; decide) rfl ?_
  refine go_dup dX12_init_1722 rfl ?_
  refine go_iconst (v := 3) dX12_init_1723 rfl ?_
  refine go_bipush (v := 97) dX12_init_1724 rfl ?_
  refine go_cast dX12_init_1726 (tk0 161 rfl sh161) (by unfold vp_in; decide) rfl ?_
  refine go_dup dX12_init_1727 rfl ?_
  refine go_iconst (v := 4) dX12_init_1728 rfl ?_
  refine go_bipush (v := 100) dX12_init_1729 rfl ?_
  refine go_cast dX12_init_1731 (tk0 161 rfl sh161) (by unfold vp_in; decide) rfl ?_
  refine go_putFR hin dX12_init_1732 f12_254 (tk0 82 rfl sh82) (by first | exact Or.inl ⟨_, rfl⟩ | exact Or.inr ⟨_, rfl⟩) rfl rfl ?_
  refine go_aload_n (x := 82) dX12_init_1735 rfl ?_
  refine go_iconst (v := 5) dX12_init_1736 rfl ?_
  refine gt_newC sh162 dX12_init_1737 rfl (by decide) (by decide) (Nat.le_of_ble_eq_true rfl) (Nat.le_of_ble_eq_true rfl) rfl ?_
  refine go_dup dX12_init_1739 rfl ?_
  refine go_iconst (v := 0) dX12_init_1740 rfl ?_
  refine go_bipush (v := 116) dX12_init_1741 rfl ?_
  refine go_cast dX12_init_1743 (tk0 162 rfl sh162) (by unfold vp_in; decide) rfl ?_
  refine go_dup dX12_init_1744 rfl ?_
  refine go_iconst (v := 1) dX12_init_1745 rfl ?_
  refine go_bipush (v := 114) dX12_init_1746 rfl ?_
  refine go_cast dX12_init_1748 (tk0 162 rfl sh162) (by unfold vp_in; decide) rfl ?_
  refine go_dup dX12_init_1749 rfl ?_
  refine go_iconst (v := 2) dX12_init_1750 rfl ?_
  refine go_bipush (v := 117) dX12_init_1751 rfl ?_
  refine go_cast dX12_init_1753 (tk0 162 rfl sh162) (by unfold vp_in; decide) rfl ?_
  refine go_dup dX12_init_1754 rfl ?_
  refine go_iconst (v := 3) dX12_init_1755 rfl ?_
  refine go_bipush (v := 115) dX12_init_1756 rfl ?_
  refine go_cast dX12_init_1758 (tk0 162 rfl sh162) (by unfold vp_in; decide) rfl ?_
  refine go_dup dX12_init_1759 rfl ?_
  refine go_iconst (v := 4) dX12_init_1760 rfl ?_
  refine go_bipush (v := 116) dX12_init_1761 rfl ?_
  refine go_cast dX12_init_1763 (tk0 162 rfl sh162) (by unfold vp_in; decide) rfl ?_
  refine go_putFR hin dX12_init_1764 f12_257 (tk0 82 rfl sh82) (by first | exact Or.inl ⟨_, rfl⟩ | exact Or.inr ⟨_, rfl⟩) rfl rfl ?_
  refine go_aload_n (x := 82) dX12_init_1767 rfl ?_
  refine go_iconst (v := 5) dX12_init_1768 rfl ?_
  refine gt_newC sh163 dX12_init_1769 rfl (by decide) (by decide) (Nat.le_of_ble_eq_true rfl) (Nat.le_of_ble_eq_true rfl) rfl ?_
  refine go_dup dX12_init_1771 rfl ?_
  refine go_iconst (v := 0) dX12_init_1772 rfl ?_
  refine go_bipush (v := 98) dX12_init_1773 rfl ?_
  refine go_cast dX12_init_1775 (tk0 163 rfl sh163) (by unfold vp_in; decide) rfl ?_
  refine go_dup dX12_init_1776 rfl ?_
  refine go_iconst (v := 1) dX12_init_1777 rfl ?_
  refine go_bipush (v := 111) dX12_init_1778 rfl ?_
  refine go_cast dX12_init_1780 (tk0 163 rfl sh163) (by unfold vp_in; decide) rfl ?_
  refine go_dup dX12_init_1781 rfl ?_
  refine go_iconst (v := 2) dX12_init_1782 rfl ?_
  refine go_bipush (v := 97) dX12_init_1783 rfl ?_
  refine go_cast dX12_init_1785 (tk0 163 rfl sh163) (by unfold vp_in; decide) rfl ?_
  refine go_dup dX12_init_1786 rfl ?_
  refine go_iconst (v := 3) dX12_init_1787 rfl ?_
  refine go_bipush (v := 116) dX12_init_1788 rfl ?_
  refine go_cast dX12_init_1790 (tk0 163 rfl sh163) (by unfold vp_in; decide) rfl ?_
  refine go_dup dX12_init_1791 rfl ?_
  refine go_iconst (v := 4) dX12_init_1792 rfl ?_
  refine go_bipush (v := 115) dX12_init_1793 rfl ?_
  refine go_cast dX12_init_1795 (tk0 163 rfl sh163) (by unfold vp_in; decide) rfl ?_
  refine go_putFR hin dX12_init_1796 f12_260 (tk0 82 rfl sh82) (by first | exact Or.inl ⟨_, rfl⟩ | exact Or.inr ⟨_, rfl⟩) rfl rfl ?_
  refine go_aload_n (x := 82) dX12_init_1799 rfl ?_
  refine go_sipush (v := 1700) dX12_init_1800 rfl ?_
  refine gt_newI sh164 dX12_init_1803 rfl (by decide) (by decide) (Nat.le_of_ble_eq_true rfl) (Nat.le_of_ble_eq_true rfl) rfl ?_
  refine go_putFR hin dX12_init_1805 f12_263 (tk0 82 rfl sh82) (by first | exact Or.inl ⟨_, rfl⟩ | exact Or.inr ⟨_, rfl⟩) rfl rfl ?_
  refine go_aload_n (x := 82) dX12_init_1808 rfl ?_
  refine go_sipush (v := 1700) dX12_init_1809 rfl ?_
  refine gt_newI sh165 dX12_init_1812 rfl (by decide) (by decide) (Nat.le_of_ble_eq_true rfl) (Nat.le_of_ble_eq_true rfl) rfl ?_
  refine go_putFR hin dX12_init_1814 f12_266 (tk0 82 rfl sh82) (by first | exact Or.inl ⟨_, rfl⟩ | exact Or.inr ⟨_, rfl⟩) rfl rfl ?_
  refine go_aload_n (x := 82) dX12_init_1817 rfl ?_
  refine go_sipush (v := 1700) dX12_init_1818 rfl ?_
  refine gt_newL sh166 dX12_init_1821 rfl (by decide) (by decide) (Nat.le_of_ble_eq_true rfl) (Nat.le_of_ble_eq_true rfl) rfl ?_
  refine go_putFR hin dX12_init_1823 f12_269 (tk0 82 rfl sh82) (by first | exact Or.inl ⟨_, rfl⟩ | exact Or.inr ⟨_, rfl⟩) rfl rfl ?_
  refine go_aload_n (x := 82) dX12_init_1826 rfl ?_
  refine go_bipush (v := 30) dX12_init_1827 rfl ?_
  refine gt_newI sh167 dX12_init_1829 rfl (by decide) (by decide) (Nat.le_of_ble_eq_true rfl) (Nat.le_of_ble_eq_true rfl) rfl ?_
  refine go_putFR hin dX12_init_1831 f12_272 (tk0 82 rfl sh82) (by first | exact Or.inl ⟨_, rfl⟩ | exact Or.inr ⟨_, rfl⟩) rfl rfl ?_
  exact go_vret dX12_init_1834 rfl vc rfl (Nat.le_of_ble_eq_true rfl) (Nat.le_of_ble_eq_true rfl)
