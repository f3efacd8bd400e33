theorem sI_sA (h : gH) (k i : Nat) (f : Nat → Int32) (x : Int32) : sI (sA h k f) k i x = sA h k (upd f i x) := by
  unfold sI sA
  refine Prod.ext ?_ rfl
  funext a b
  show (if a = k then (if b = i then x else (if a = k then f else h.1 a) b) else (if a = k then f else h.1 a) b) = (if a = k then upd f i x else h.1 a) b
  by_cases ha : a = k
  · simp only [if_pos ha]
    rfl
  · simp only [if_neg ha]
theorem sA_id {h : gH} {k : Nat} {f : Nat → Int32} (hf : h.1 k = f) : sA h k f = h := by
  unfold sA
  refine Prod.ext ?_ rfl
  funext a
  show (if a = k then f else h.1 a) = h.1 a
  by_cases ha : a = k
  · rw [if_pos ha, ha, hf]
  · rw [if_neg ha]
/-- the words of the reader, letter by letter -/
def wch (i : Nat) : Int32 := ((gsB 0 i &&& 255).toUInt32 % 65536).toInt32
def wstep (q : Nat × Int32 × (Nat → Int32)) (c : Int32) : Nat × Int32 × (Nat → Int32) :=
  if c = 32 then (q.1 + 1, 0, upd q.2.2 q.1 (q.2.2 q.1 <<< ((5 * (6 - q.2.1)) &&& 31))) else (q.1, q.2.1 + 1, upd q.2.2 q.1 ((q.2.2 q.1 <<< ((5 : Int32) &&& 31)) ||| (c - 97 + 1)))
def wst : Nat → Nat × Int32 × (Nat → Int32)
  | 0 => (0, 0, fun _ => 0)
  | i + 1 => wstep (wst i) (wch i)
def wcn : Nat → Nat
  | 0 => 0
  | i + 1 => if wch i = 32 then wcn i + 1 else wcn i
theorem wst_cn : ∀ i, (wst i).1 = wcn i
  | 0 => rfl
  | i + 1 => by
    show (wstep (wst i) (wch i)).1 = if wch i = 32 then wcn i + 1 else wcn i
    unfold wstep
    by_cases h : wch i = 32
    · rw [if_pos h, if_pos h]
      show (wst i).1 + 1 = _
      rw [wst_cn i]
    · rw [if_neg h, if_neg h]
      exact wst_cn i
theorem wlen : gsL 0 = 208 := by decide +kernel
theorem wcn_lt : ∀ i, i < 208 → wcn i < 40 := by decide +kernel
theorem wcn_end : wcn 208 = 40 := by decide +kernel
def gWd : Nat → Int32 := (wst 208).2.2
def eRd (h : gH) : gH := sI (sI (sI (sI (sR (sN (sR (sN h 2) 1 0 (some 2)) 3) 1 1 (some 3)) 1 2 0) 1 3 (-1)) 1 8 0) 1 9 (-1)
def eX5_init_1 (h : gH) : gH := sA (eRd h) 3 gWd
section GRD
variable {p : Program} {l : Launch} {e : Env} {s : State} {m : MethodId} {args : Array Value} {below : List Frame} {meth : Method} {c : Code} {G : gG} {d : Nat} {Q : Option Value → gH → Prop} {h : gH}
abbrev gRd (p : Program) (l : Launch) (e : Env) (s : State) (m : MethodId) (args : Array Value) (below : List Frame) (meth : Method) (c : Code) (G : gG) (d : Nat) (Q : Option Value → gH → Prop) (pc : Nat) (ls : gLs) (st : List Value) (h : gH) : Prop :=
  Go p l e (gRm (d + 4) 2 1640) s m args below meth c G MX5_init (gSH.take 4) 2 1640 (gZ below args s G (gSH.take 4) 2 1640 Q) pc ls st h
set_option maxRecDepth 20000 in
theorem rd_loop (vc : Q none (eX5_init_1 h)) : ∀ (k i : Nat) (o : Option Value), i + k = 208 → g2 o = false → gRd p l e s m args below meth c G d Q 47 [some (.ref 1), some (.int (nI (wst i).1)), some (.int (wst i).2.1), some (.int (nI i)), o] [] (sA (eRd h) 3 (wst i).2.2) := by
  intro k
  induction k with
  | zero =>
    intro i o hi _
    have hi : i = 208 := by omega
    subst hi
    refine go_iload_n (x := nI 208) dX5_init_47 rfl ?_
    refine go_ldcS0 rfl dX5_init_48 ?_
    refine go_callT (d := d + 3) (i := 0) (by decide) MJ0_length_8abf5 [] dX5_init_50 lX5_33 kJ0_length_8abf5 vJ0_length_8abf5 rfl rfl (Nat.le_of_ble_eq_true rfl) (Nat.le_refl _) (by show 80 * (d + 3) + 59 ≤ 80 * (d + 4); omega) ⟨Nat.le_refl _, Nat.le_refl _⟩ rfl (c_strlen (d := d + 2) (by decide) ?_)
    rw [wlen]
    refine go_icmp_ge 131 dX5_init_53 rfl (fun q => ?_) (fun q => absurd (nI_le (Nat.le_refl 208) (by decide)) q)
    exact go_vret dX5_init_131 rfl vc rfl (Nat.le_refl _) (Nat.le_refl _)
  | succ k ih =>
    intro i o hi ho
    have hlt : i < 208 := by omega
    have hw : (wst i).1 < 40 := by rw [wst_cn]; exact wcn_lt i hlt
    have hwi : vp_in (nI (wst i).1) 40 := vp_in_nI hw (by decide)
    have hcl : (nI (wst i).1).toNatClampNeg = (wst i).1 := nI_clamp (by omega)
    refine go_iload_n (x := nI i) dX5_init_47 rfl ?_
    refine go_ldcS0 rfl dX5_init_48 ?_
    refine go_callT (d := d + 3) (i := 0) (by decide) MJ0_length_8abf5 [] dX5_init_50 lX5_33 kJ0_length_8abf5 vJ0_length_8abf5 rfl rfl (Nat.le_of_ble_eq_true rfl) (Nat.le_refl _) (by show 80 * (d + 3) + 59 ≤ 80 * (d + 4); omega) ⟨Nat.le_refl _, Nat.le_refl _⟩ rfl (c_strlen (d := d + 2) (by decide) ?_)
    rw [wlen]
    refine go_icmp_ge 131 dX5_init_53 rfl (fun q => absurd q (nI_ge hlt (by decide))) (fun _ => ?_)
    refine go_iload_n (x := nI (wst i).1) dX5_init_56 rfl ?_
    refine go_bipush (v := 40) dX5_init_57 rfl ?_
    refine go_icmp_ge 131 dX5_init_59 rfl (fun q => absurd q (nI_ge hw (by decide))) (fun _ => ?_)
    refine go_ldcS0 rfl dX5_init_62 ?_
    refine go_iload_n (x := nI i) dX5_init_64 rfl ?_
    refine go_callT (d := d + 3) (i := 0) (by decide) MJ0_charAt_5068e [.int (nI i)] dX5_init_65 lX5_39 kJ0_charAt_5068e vJ0_charAt_5068e rfl rfl (Nat.le_of_ble_eq_true rfl) (Nat.le_refl _) (by show 80 * (d + 3) + 59 ≤ 80 * (d + 4); omega) ⟨Nat.le_refl _, Nat.le_refl _⟩ rfl (c_charAt (d := d) (by decide) (by rw [wlen]; exact vp_in_nI hlt (by decide)) ?_)
    rw [nI_clamp (by omega)]
    show gRd p l e s m args below meth c G d Q 68 [some (.ref 1), some (.int (nI (wst i).1)), some (.int (wst i).2.1), some (.int (nI i)), o] [.int (wch i)] (sA (eRd h) 3 (wst i).2.2)
    have hsucc : wst (i + 1) = wstep (wst i) (wch i) := rfl
    have e1 : nI i + Int32.ofInt 1 = nI (i + 1) := nI_1 i
    refine go_istore dX5_init_68 (Nat.le_of_ble_eq_true rfl) ?_
    show gRd p l e s m args below meth c G d Q 70 [some (.ref 1), some (.int (nI (wst i).1)), some (.int (wst i).2.1), some (.int (nI i)), some (.int (wch i))] [] (sA (eRd h) 3 (wst i).2.2)
    refine go_iload (x := wch i) dX5_init_70 rfl ?_
    refine go_bipush (v := 32) dX5_init_72 rfl ?_
    refine go_icmp_ne 100 dX5_init_74 rfl (fun q => ?_) (fun q => ?_)
    · have hst : wst (i + 1) = ((wst i).1, (wst i).2.1 + 1, upd (wst i).2.2 (wst i).1 (((wst i).2.2 (wst i).1 <<< ((5 : Int32) &&& 31)) ||| (wch i - 97 + 1))) := hsucc.trans (if_neg q)
      refine go_aload_n (x := 1) dX5_init_100 rfl ?_
      refine go_getR (x := 3) dX5_init_101 f5_15 (tk0 1 rfl sh1) (fun _ _ => rfl) rfl ?_
      refine go_iload_n (x := nI (wst i).1) dX5_init_104 rfl ?_
      refine go_aload_n (x := 1) dX5_init_105 rfl ?_
      refine go_getR (x := 3) dX5_init_106 f5_15 (tk0 1 rfl sh1) (fun _ _ => rfl) rfl ?_
      refine go_iload_n (x := nI (wst i).1) dX5_init_109 rfl ?_
      refine go_iald' (v := (wst i).2.2 (wst i).1) dX5_init_110 (tk0 3 rfl sh3) hwi (by rw [sA_s, hcl]) ?_
      refine go_iconst (v := 5) dX5_init_111 rfl ?_
      refine go_ishl dX5_init_112 ?_
      refine go_iload (x := wch i) dX5_init_113 rfl ?_
      refine go_bipush (v := 97) dX5_init_115 rfl ?_
      refine go_isub dX5_init_117 ?_
      refine go_iconst (v := 1) dX5_init_118 rfl ?_
      refine go_iadd dX5_init_119 ?_
      refine go_ior dX5_init_120 ?_
      refine go_iast dX5_init_121 (tk0 3 rfl sh3) hwi ?_
      rw [hcl, sI_sA]
      refine go_iinc (x := (wst i).2.1) dX5_init_122 rfl ?_
      refine go_iinc (x := nI i) dX5_init_125 rfl ?_
      refine go_goto 47 dX5_init_128 rfl ?_
      have hk := ih (i + 1) (some (.int (wch i))) (by omega) rfl
      rw [hst, ← e1] at hk
      exact hk
    · have q' : wch i = 32 := q
      have hst : wst (i + 1) = ((wst i).1 + 1, 0, upd (wst i).2.2 (wst i).1 ((wst i).2.2 (wst i).1 <<< ((5 * (6 - (wst i).2.1)) &&& 31))) := hsucc.trans (if_pos q')
      refine go_aload_n (x := 1) dX5_init_77 rfl ?_
      refine go_getR (x := 3) dX5_init_78 f5_15 (tk0 1 rfl sh1) (fun _ _ => rfl) rfl ?_
      refine go_iload_n (x := nI (wst i).1) dX5_init_81 rfl ?_
      refine go_dup2 dX5_init_82 rfl rfl ?_
      refine go_iald' (v := (wst i).2.2 (wst i).1) dX5_init_83 (tk0 3 rfl sh3) hwi (by rw [sA_s, hcl]) ?_
      refine go_iconst (v := 5) dX5_init_84 rfl ?_
      refine go_bipush (v := 6) dX5_init_85 rfl ?_
      refine go_iload_n (x := (wst i).2.1) dX5_init_87 rfl ?_
      refine go_isub dX5_init_88 ?_
      refine go_imul dX5_init_89 ?_
      refine go_ishl dX5_init_90 ?_
      refine go_iast dX5_init_91 (tk0 3 rfl sh3) hwi ?_
      rw [hcl, sI_sA]
      refine go_iinc (x := nI (wst i).1) dX5_init_92 rfl ?_
      refine go_iconst (v := 0) dX5_init_95 rfl ?_
      refine go_istore_n dX5_init_96 (Nat.le_of_ble_eq_true rfl) ?_
      refine go_goto 125 dX5_init_97 rfl ?_
      refine go_iinc (x := nI i) dX5_init_125 rfl ?_
      refine go_goto 47 dX5_init_128 rfl ?_
      have hk := ih (i + 1) (some (.int (wch i))) (by omega) rfl
      have e2 : nI (wst i).1 + Int32.ofInt 1 = nI ((wst i).1 + 1) := nI_1 _
      rw [hst, ← e1] at hk
      rw [← e2] at hk
      exact hk
set_option maxRecDepth 20000 in
theorem cX5_init_1 {l : Launch} {G : gG} {d : Nat} {h : gH} {Q : Option Value → gH → Prop} (hd : 6 ≤ d) (vc : Q none (eX5_init_1 h)) : gCt l G d MX5_init (gSH.take 2) (gSH.take 4) 2 1640 [.ref 1] h Q := by
  obtain ⟨d, rfl⟩ : ∃ d', d = d' + 4 := ⟨d - 4, by omega⟩
  refine gCt.ofI rfl rfl (by decide) (fun p e s m args below meth c hin => ?_)
  show Go p l e (gRm (d + 4) 2 1640) s m args below meth c G MX5_init (gSH.take 2) 0 0 (gZ below args s G (gSH.take 4) 2 1640 Q) 0 [some (.ref 1), none, none, none, none] [] h
  refine go_aload_n (x := 1) dX5_init_0 rfl ?_
  refine go_objI dX5_init_1 lOX5_3 gO_i gO_c (by show 1 ≤ d + 4; omega) (by show 0 + 12 ≤ 80 * (d + 4); omega) ?_
  refine go_aload_n (x := 1) dX5_init_4 rfl ?_
  refine go_sipush (v := 1600) dX5_init_5 rfl ?_
  refine gt_newI sh2 dX5_init_8 rfl (by decide) (by decide) (by show 0 + 1 ≤ 2; decide) (by show 0 + 1600 ≤ 1640; decide) rfl ?_
  refine go_putFR hin dX5_init_10 f5_9 (tk0 1 rfl sh1) (Or.inr ⟨_, rfl⟩) rfl rfl ?_
  refine go_aload_n (x := 1) dX5_init_13 rfl ?_
  refine go_bipush (v := 40) dX5_init_14 rfl ?_
  refine gt_newI sh3 dX5_init_16 rfl (by decide) (by decide) (by show 0 + 1 + 1 ≤ 2; decide) (by show 0 + 1600 + 40 ≤ 1640; decide) rfl ?_
  refine go_putFR hin dX5_init_18 f5_15 (tk0 1 rfl sh1) (Or.inr ⟨_, rfl⟩) rfl rfl ?_
  refine go_aload_n (x := 1) dX5_init_21 rfl ?_
  refine go_iconst (v := 0) dX5_init_22 rfl ?_
  refine go_putI dX5_init_23 f5_18 (tk0 1 rfl sh1) rfl rfl ?_
  refine go_aload_n (x := 1) dX5_init_26 rfl ?_
  refine go_iconst (v := -1) dX5_init_27 rfl ?_
  refine go_putI dX5_init_28 f5_22 (tk0 1 rfl sh1) rfl rfl ?_
  refine go_aload_n (x := 1) dX5_init_31 rfl ?_
  refine go_iconst (v := 0) dX5_init_32 rfl ?_
  refine go_putI dX5_init_33 f5_25 (tk0 1 rfl sh1) rfl rfl ?_
  refine go_aload_n (x := 1) dX5_init_36 rfl ?_
  refine go_iconst (v := -1) dX5_init_37 rfl ?_
  refine go_putI dX5_init_38 f5_28 (tk0 1 rfl sh1) rfl rfl ?_
  refine go_iconst (v := 0) dX5_init_41 rfl ?_
  refine go_istore_n dX5_init_42 (Nat.le_of_ble_eq_true rfl) ?_
  refine go_iconst (v := 0) dX5_init_43 rfl ?_
  refine go_istore_n dX5_init_44 (Nat.le_of_ble_eq_true rfl) ?_
  refine go_iconst (v := 0) dX5_init_45 rfl ?_
  refine go_istore_n dX5_init_46 (Nat.le_of_ble_eq_true rfl) ?_
  show gRd p l e s m args below meth c G d Q 47 [some (.ref 1), some (.int 0), some (.int 0), some (.int 0), none] [] (eRd h)
  have h0 : sA (eRd h) 3 (fun _ => 0) = eRd h := sA_id (by funext b; rfl)
  have hk := rd_loop (p := p) (l := l) (e := e) (s := s) (m := m) (args := args) (below := below) (meth := meth) (c := c) (G := G) (d := d) vc 208 0 none rfl rfl
  rw [show (wst 0).2.2 = (fun _ => 0) from rfl, h0] at hk
  exact hk
end GRD
