section GR2
variable {p : Program} {l : Launch} {e : Env} {R : Room} {s : State} {m : MethodId} {args : Array Value} {below : List Frame} {meth : Method} {c : Code} {G : gG} {M : gM} {sh : gS} {cells slots : Nat} {Z : State → Prop}
variable {pc : Nat} {ls : gLs} {st : List Value} {h : gH}
theorem go_getI' {idx ci j k : Nat} {v : Int32} (hd : decode M.2.1 pc = .ok (.getfield idx, 3)) (hf : gFl M.1.cls idx ci j) (hs : sh[k]? = some (ci, gN ci)) (ht : ∀ (G : gG) (h : gH), gfv G h k (gty ci j) j = .int (h.1 k j)) (hv : h.1 k j = v)
    (kk : Go p l e R s m args below meth c G M sh cells slots Z (pc + 3) ls (.int v :: st) h) : Go p l e R s m args below meth c G M sh cells slots Z pc ls (.ref k :: st) h := by
  subst hv
  exact go_getI hd hf hs ht kk
theorem go_getL' {idx ci j k : Nat} {v : Int64} (hd : decode M.2.1 pc = .ok (.getfield idx, 3)) (hf : gFl M.1.cls idx ci j) (hs : sh[k]? = some (ci, gN ci)) (ht : ∀ (G : gG) (h : gH), gfv G h k (gty ci j) j = .long (h.2.1 k j)) (hv : h.2.1 k j = v)
    (kk : Go p l e R s m args below meth c G M sh cells slots Z (pc + 3) ls (.long v :: st) h) : Go p l e R s m args below meth c G M sh cells slots Z pc ls (.ref k :: st) h := by
  subst hv
  exact go_getL hd hf hs ht kk
theorem go_iald' {k n : Nat} {i v : Int32} (hd : decode M.2.1 pc = .ok (.iaload, 1)) (hs : sh[k]? = some (20, n)) (hin : vp_in i n) (hv : h.1 k i.toNatClampNeg = v)
    (kk : Go p l e R s m args below meth c G M sh cells slots Z (pc + 1) ls (.int v :: st) h) : Go p l e R s m args below meth c G M sh cells slots Z pc ls (.int i :: .ref k :: st) h := by
  subst hv
  exact go_iald hd hs hin kk
theorem go_cald' {k n : Nat} {i v : Int32} (hd : decode M.2.1 pc = .ok (.caload, 1)) (hs : sh[k]? = some (22, n)) (hin : vp_in i n) (hv : h.1 k i.toNatClampNeg = v)
    (kk : Go p l e R s m args below meth c G M sh cells slots Z (pc + 1) ls (.int v :: st) h) : Go p l e R s m args below meth c G M sh cells slots Z pc ls (.int i :: .ref k :: st) h := by
  subst hv
  exact go_cald hd hs hin kk
theorem go_lald' {k n : Nat} {i : Int32} {v : Int64} (hd : decode M.2.1 pc = .ok (.laload, 1)) (hs : sh[k]? = some (21, n)) (hin : vp_in i n) (hv : h.2.1 k i.toNatClampNeg = v)
    (kk : Go p l e R s m args below meth c G M sh cells slots Z (pc + 1) ls (.long v :: st) h) : Go p l e R s m args below meth c G M sh cells slots Z pc ls (.int i :: .ref k :: st) h := by
  subst hv
  exact go_lald hd hs hin kk
theorem rlc_s {lk sp : Nat} {cd : Option Nat} (hR : h.2.2 = gRF lk sp cd) {x : Nat} (hx : x = 30 ∨ x = 67) {j : Nat} (hj : j < 3) : h.2.2 (x + 11) j = some (x + (12 + j)) := by
  rw [hR]
  match j, hj with
  | 0, _ => rcases hx with rfl | rfl <;> rfl
  | 1, _ => rcases hx with rfl | rfl <;> rfl
  | 2, _ => rcases hx with rfl | rfl <;> rfl
end GR2
section GR3
variable {p : Program} {l : Launch} {e : Env} {s : State} {m : MethodId} {args : Array Value} {below : List Frame} {meth : Method} {c : Code} {G : gG} {M : gM} {d pc : Nat} {Q : Option Value → gH → Prop} {ls : gLs} {st : List Value} {h : gH} {idx : Nat}
theorem g_mini : Cond.code Lib.Math.min.name Lib.Math.min.code 2 (some .int) ∈ gW := kJ9_min_7cf53.1
theorem g_maxi : Cond.code Lib.Math.max.name Lib.Math.max.code 2 (some .int) ∈ gW := kJ9_max_7cf53.1
theorem g_absi : Cond.code Lib.Math.abs.name Lib.Math.abs.code 1 (some .int) ∈ gW := kJ9_abs_0f7a4.1
theorem g_minl : Cond.code Lib.MathLoose.min_long.x Lib.MathLoose.min_long.code 4 (some .long) ∈ gW := kJ9_min_f86c9.1
theorem g_maxl : Cond.code Lib.MathLoose.max_long.x Lib.MathLoose.max_long.code 4 (some .long) ∈ gW := kJ9_max_f86c9.1
theorem go_min {x y : Int32} (hd : decode M.2.1 pc = .ok (.invokestatic idx, 3)) (hlk : Cond.methodLink M.1.cls idx yJ9_min_7cf53 ∈ gW) (hrm : (st.map fun v => v.category).sum ≤ 8) (k : gg p l e s m args below meth c G (d + 1) M Q (pc + 3) ls (.int (if y < x then y else x) :: st) h) : gg p l e s m args below meth c G (d + 1) M Q pc ls (.int y :: .int x :: st) h := by
  intro ok H locs la hl hr hS
  exact va_mmin ok.1 ok.2.1 (ok.2.2.1.trans hl.1.symm) ok.2.2.2.2.1 (ok.2.2.2.2.2.1 _ hlk) (ok.2.2.2.2.2.1 _ sJ9_min_7cf53) (ok.2.2.2.2.2.1 _ kJ9_min_7cf53.2.1) (ok.2.2.2.2.2.1 _ g_mini) (Nat.le_add_left 1 d) (by rw [gx_cats]; show _ ≤ 80 * (d + 1); omega) (Nat.le_refl _) (Nat.le_refl _) hd (k ok H locs la hl hr hS)
theorem go_max {x y : Int32} (hd : decode M.2.1 pc = .ok (.invokestatic idx, 3)) (hlk : Cond.methodLink M.1.cls idx yJ9_max_7cf53 ∈ gW) (hrm : (st.map fun v => v.category).sum ≤ 8) (k : gg p l e s m args below meth c G (d + 1) M Q (pc + 3) ls (.int (if x < y then y else x) :: st) h) : gg p l e s m args below meth c G (d + 1) M Q pc ls (.int y :: .int x :: st) h := by
  intro ok H locs la hl hr hS
  exact va_mmax ok.1 ok.2.1 (ok.2.2.1.trans hl.1.symm) ok.2.2.2.2.1 (ok.2.2.2.2.2.1 _ hlk) (ok.2.2.2.2.2.1 _ sJ9_max_7cf53) (ok.2.2.2.2.2.1 _ kJ9_max_7cf53.2.1) (ok.2.2.2.2.2.1 _ g_maxi) (Nat.le_add_left 1 d) (by rw [gx_cats]; show _ ≤ 80 * (d + 1); omega) (Nat.le_refl _) (Nat.le_refl _) hd (k ok H locs la hl hr hS)
theorem go_abs {x : Int32} (hd : decode M.2.1 pc = .ok (.invokestatic idx, 3)) (hlk : Cond.methodLink M.1.cls idx yJ9_abs_0f7a4 ∈ gW) (hrm : (st.map fun v => v.category).sum ≤ 8) (k : gg p l e s m args below meth c G (d + 1) M Q (pc + 3) ls (.int (if 0 ≤ x then x else 0 - x) :: st) h) : gg p l e s m args below meth c G (d + 1) M Q pc ls (.int x :: st) h := by
  intro ok H locs la hl hr hS
  exact va_mabs ok.1 ok.2.1 (ok.2.2.1.trans hl.1.symm) ok.2.2.2.2.1 (ok.2.2.2.2.2.1 _ hlk) (ok.2.2.2.2.2.1 _ sJ9_abs_0f7a4) (ok.2.2.2.2.2.1 _ kJ9_abs_0f7a4.2.1) (ok.2.2.2.2.2.1 _ g_absi) (Nat.le_add_left 1 d) (by rw [gx_cats]; show _ ≤ 80 * (d + 1); omega) (Nat.le_refl _) (Nat.le_refl _) hd (k ok H locs la hl hr hS)
theorem go_minL {x y : Int64} (hd : decode M.2.1 pc = .ok (.invokestatic idx, 3)) (hlk : Cond.methodLink M.1.cls idx yJ9_min_f86c9 ∈ gW) (hrm : (st.map fun v => v.category).sum ≤ 8) (k : gg p l e s m args below meth c G (d + 1) M Q (pc + 3) ls (.long (if y < x then y else x) :: st) h) : gg p l e s m args below meth c G (d + 1) M Q pc ls (.long y :: .long x :: st) h := by
  intro ok H locs la hl hr hS
  exact va_mmin_long ok.1 ok.2.1 (ok.2.2.1.trans hl.1.symm) ok.2.2.2.2.1 (ok.2.2.2.2.2.1 _ hlk) (ok.2.2.2.2.2.1 _ sJ9_min_f86c9) (ok.2.2.2.2.2.1 _ kJ9_min_f86c9.2.1) (ok.2.2.2.2.2.1 _ g_minl) (Nat.le_add_left 1 d) (by rw [gx_cats]; show _ ≤ 80 * (d + 1); omega) (Nat.le_refl _) (Nat.le_refl _) hd (k ok H locs la hl hr hS)
theorem go_maxL {x y : Int64} (hd : decode M.2.1 pc = .ok (.invokestatic idx, 3)) (hlk : Cond.methodLink M.1.cls idx yJ9_max_f86c9 ∈ gW) (hrm : (st.map fun v => v.category).sum ≤ 8) (k : gg p l e s m args below meth c G (d + 1) M Q (pc + 3) ls (.long (if y < x then x else y) :: st) h) : gg p l e s m args below meth c G (d + 1) M Q pc ls (.long y :: .long x :: st) h := by
  intro ok H locs la hl hr hS
  exact va_mmax_long ok.1 ok.2.1 (ok.2.2.1.trans hl.1.symm) ok.2.2.2.2.1 (ok.2.2.2.2.2.1 _ hlk) (ok.2.2.2.2.2.1 _ sJ9_max_f86c9) (ok.2.2.2.2.2.1 _ kJ9_max_f86c9.2.1) (ok.2.2.2.2.2.1 _ g_maxl) (Nat.le_add_left 1 d) (by rw [gx_cats]; show _ ≤ 80 * (d + 1); omega) (Nat.le_refl _) (Nat.le_refl _) hd (k ok H locs la hl hr hS)
end GR3
section GR4
variable {p : Program} {l : Launch} {e : Env} {R : Room} {s : State} {m : MethodId} {args : Array Value} {below : List Frame} {meth : Method} {c : Code} {G : gG} {M : gM} {sh : gS} {cells slots : Nat} {Z : State → Prop}
variable {pc : Nat} {ls : gLs} {st : List Value} {h : gH}
theorem go_callSN {idx n d mc ms : Nat} {she : gS} (Mc : gM) (As : List Value) {stk : List Value} (hd : decode M.2.1 pc = .ok (.invokestatic idx, 3)) (hlk : ∀ {U : State}, gX G U → va_Nw (.methodLinkNest M.1.cls idx Mc.1 RX11) U) (hcd : gCd Mc n) (hvi : gSt Mc) (hn : As.length = n)
    (hrm : (st.map fun v => v.category).sum ≤ 8) (hfr : d + 1 ≤ R.frames) (hlo : 80 * d + 59 ≤ R.locals) (hce : cells + mc ≤ R.cells ∧ slots + ms ≤ R.slots) (hst : stk = As.reverse ++ st)
    (hm : gCt l G d Mc sh she mc ms As h (fun r h' => Go p l e R s m args below meth c G M she (cells + mc) (slots + ms) Z (pc + 3) ls (r.toList ++ st) h')) : Go p l e R s m args below meth c G M sh cells slots Z pc ls stk h := by
  subst hst
  intro ok H locs la hl hr hS
  have hts := ok.2.2.2.2.2.1
  refine gx_back ok hl hS (va_runSN (As := As.map (gv G)) (rest := st.map (gv G)) (bytes := Mc.2.1) (maxL := Mc.2.2.1) (ret := Mc.2.2.2) (n := n) (host := RX11) ⟨ok.1, ok.2.1, ok.2.2.1, ok.2.2.2.2.1, hts⟩ hm ⟨?_, hts _ hvi, trivial⟩ ⟨gPc_blind _ _ _ _, gx_pre ok hr hS As⟩ rfl ?_ hl.1 ?_ ?_ hd hce) (fun _ _ q => q)
  · refine va_cnB n hts (gW_code hcd) rfl rfl rfl (hlk ok.2.2.2.2.2.2.2.1.2) (hts _ hcd.2.1) hcd.2.2.1 ⟨hfr, ?_⟩
    have := hcd.2.2.2
    show 8 + (Mc.2.2.1 + 11) + 80 * d ≤ R.locals
    omega
  · rw [List.length_map]; exact hn
  · show List.map (gv G) (As.reverse ++ st) = _
    rw [List.map_append, List.map_reverse]
  · show 2 * 0 + _ ≤ 8
    rw [gx_cats]
    omega
theorem gnI1 {d : Nat} {Q : Option Value → gH → Prop} {idx : Nat} {a1 : Value} {F : Int32 → gH → Prop} (Mc : gM) (hd : decode M.2.1 pc = .ok (.invokestatic idx, 3)) (hlk : ∀ {U : State}, gX G U → va_Nw (.methodLinkNest M.1.cls idx Mc.1 RX11) U) (hcd : gCd Mc 1) (hvi : gSt Mc) (hrm : (st.map fun v => v.category).sum ≤ 8) (hm : gC l G d Mc [a1] h (rI F)) (k : ∀ v h', F v h' → gg p l e s m args below meth c G (d + 1) M Q (pc + 3) ls (.int v :: st) h') : gg p l e s m args below meth c G (d + 1) M Q pc ls (a1 :: st) h := by
  refine go_callSN (d := d) (mc := 0) (ms := 0) (she := gSH) Mc [a1] hd hlk hcd hvi rfl hrm (Nat.le_refl _) (by show 80 * d + 59 ≤ 80 * (d + 1); omega) ⟨Nat.le_refl _, Nat.le_refl _⟩ rfl (hm.mono fun r h' q => ?_)
  obtain ⟨v, rfl, q⟩ := q
  exact k v h' q
end GR4
/-- fewer locals are told -/
def gle : gLs → gLs → Prop
  | [], [] => True
  | none :: a, _ :: b => gle a b
  | some v :: a, some w :: b => v = w ∧ gle a b
  | _, _ => False
theorem gle_len : ∀ {a b : gLs}, gle a b → a.length = b.length
  | [], [], _ => rfl
  | none :: a, _ :: b, h => by rw [List.length_cons, List.length_cons, gle_len (a := a) (b := b) h]
  | some v :: a, some w :: b, h => by rw [List.length_cons, List.length_cons, gle_len (a := a) (b := b) h.2]
  | some _ :: _, none :: _, h => h.elim
  | [], _ :: _, h => h.elim
  | none :: _, [], h => h.elim
  | some _ :: _, [], h => h.elim
theorem gle_at : ∀ {a b : gLs}, gle a b → ∀ (i : Nat) (v : Value), a[i]? = some (some v) → b[i]? = some (some v)
  | [], _, _, i, v, h => by simp at h
  | none :: a, _ :: b, h, i, v, hv => by
    cases i with
    | zero => simp at hv
    | succ i => simpa using gle_at (a := a) (b := b) h i v (by simpa using hv)
  | some w :: a, some w' :: b, h, i, v, hv => by
    cases i with
    | zero =>
      have e := h.1
      subst e
      simpa using hv
    | succ i => simpa using gle_at (a := a) (b := b) h.2 i v (by simpa using hv)
  | some _ :: _, none :: _, h, _, _, _ => h.elim
  | none :: _, [], h, _, _, _ => h.elim
  | some _ :: _, [], h, _, _, _ => h.elim
theorem go_weak {p : Program} {l : Launch} {e : Env} {R : Room} {s : State} {m : MethodId} {args : Array Value} {below : List Frame} {meth : Method} {c : Code} {G : gG} {M : gM} {sh : gS} {cells slots : Nat} {Z : State → Prop} {pc : Nat} {ls ls' : gLs} {st : List Value} {h : gH} (hle : gle ls' ls) (k : Go p l e R s m args below meth c G M sh cells slots Z pc ls' st h) : Go p l e R s m args below meth c G M sh cells slots Z pc ls st h := by
  intro ok H locs la hl hr hS
  exact k ok H locs la ⟨hl.1, (gle_len hle).trans hl.2.1, hl.2.2.1, fun i v hv => hl.2.2.2 i v (gle_at hle i v hv)⟩ hr hS
theorem lYX1_85 : Cond.methodLink RX1 85 arraycopyName ∈ gW := mW_5 (List.mem_of_getElem? (i := 62) rfl) rfl
theorem lYX2_48 : Cond.methodLink RX2 48 arraycopyName ∈ gW := mW_5 (List.mem_of_getElem? (i := 156) rfl) rfl
theorem gY_nat : Cond.native arraycopyName ∈ gW := mW_5 (List.mem_of_getElem? (i := 64) rfl) rfl
theorem gY_sta : Cond.static arraycopyName ∈ gW := mW_5 (List.mem_of_getElem? (i := 63) rfl) rfl
theorem gY_ini : Cond.initialized "java/lang/System" ∈ gW := mW_1 (List.mem_of_getElem? (i := 21) rfl) rfl
def sA (h : gH) (k : Nat) (f : Nat → Int32) : gH := (fun a => if a = k then f else h.1 a, h.2.1, h.2.2)
theorem sA_o (h : gH) (k : Nat) (f : Nat → Int32) : ∀ a, a ≠ k → (sA h k f).1 a = h.1 a ∧ (sA h k f).2.1 a = h.2.1 a ∧ (sA h k f).2.2 a = h.2.2 a := fun a ha => ⟨by show (if a = k then _ else _) = _; rw [if_neg ha], rfl, rfl⟩
theorem sA_s (h : gH) (k : Nat) (f : Nat → Int32) : (sA h k f).1 k = f := by show (if k = k then _ else _) = _; rw [if_pos rfl]
theorem rf_past {h : gH} {lk sp : Nat} {cd : Option Nat} (hR : h.2.2 = gRF lk sp cd) {i : Int32} (hi : vp_in i 20) : h.2.2 8 i.toNatClampNeg = some (9 + i.toNatClampNeg) := by
  have h2 : i.toNatClampNeg < 20 := Nat.not_le.mp fun q => hi (Or.inr q)
  generalize i.toNatClampNeg = n at h2
  rw [hR]
  match n, h2 with
  | 0, _ => rfl
  | 1, _ => rfl
  | 2, _ => rfl
  | 3, _ => rfl
  | 4, _ => rfl
  | 5, _ => rfl
  | 6, _ => rfl
  | 7, _ => rfl
  | 8, _ => rfl
  | 9, _ => rfl
  | 10, _ => rfl
  | 11, _ => rfl
  | 12, _ => rfl
  | 13, _ => rfl
  | 14, _ => rfl
  | 15, _ => rfl
  | 16, _ => rfl
  | 17, _ => rfl
  | 18, _ => rfl
  | 19, _ => rfl
  | n + 20, h2 => exact absurd h2 (by omega)
theorem sh_past {i : Int32} (hi : vp_in i 20) : gSH[9 + i.toNatClampNeg]? = some (20, 67) := by
  have h2 : i.toNatClampNeg < 20 := Nat.not_le.mp fun q => hi (Or.inr q)
  generalize i.toNatClampNeg = n at h2
  match n, h2 with
  | 0, _ => rfl
  | 1, _ => rfl
  | 2, _ => rfl
  | 3, _ => rfl
  | 4, _ => rfl
  | 5, _ => rfl
  | 6, _ => rfl
  | 7, _ => rfl
  | 8, _ => rfl
  | 9, _ => rfl
  | 10, _ => rfl
  | 11, _ => rfl
  | 12, _ => rfl
  | 13, _ => rfl
  | 14, _ => rfl
  | 15, _ => rfl
  | 16, _ => rfl
  | 17, _ => rfl
  | 18, _ => rfl
  | 19, _ => rfl
  | n + 20, h2 => exact absurd h2 (by omega)
section GCP
variable {p : Program} {l : Launch} {e : Env} {s : State} {m : MethodId} {args : Array Value} {below : List Frame} {meth : Method} {c : Code} {G : gG} {M : gM} {d pc : Nat} {Q : Option Value → gH → Prop} {ls : gLs} {st : List Value} {h : gH} {idx : Nat}
theorem go_copy {k0 k1 n0 n1 : Nat} {sp dp n : Int32} (hd : decode M.2.1 pc = .ok (.invokestatic idx, 3)) (hlk : Cond.methodLink M.1.cls idx arraycopyName ∈ gW) (hs0 : gSH[k0]? = some (20, n0)) (hs1 : gSH[k1]? = some (20, n1)) (h1 : ¬ sp < 0) (h2 : ¬ dp < 0) (h3 : ¬ n < 0) (h4 : sp.toNatClampNeg + n.toNatClampNeg ≤ n0) (h5 : dp.toNatClampNeg + n.toNatClampNeg ≤ n1) (hrm : (st.map fun v => v.category).sum ≤ 8)
    (k : gg p l e s m args below meth c G (d + 1) M Q (pc + 3) ls st (sA h k1 (va_cpy (h.1 k0) (h.1 k1) sp.toNatClampNeg dp.toNatClampNeg n.toNatClampNeg))) : gg p l e s m args below meth c G (d + 1) M Q pc ls (.int n :: .int dp :: .ref k1 :: .int sp :: .ref k0 :: st) h := by
  intro ok H locs la hl hr hS
  show W p l e (gRm (d + 1) 0 0) s m args below meth c H locs 0 0 _ (F0 m pc la (.int n :: .int dp :: .ref (ga G k1) :: .int sp :: .ref (ga G k0) :: st.map (gv G)))
  rw [hr.ga hs0, hr.ga hs1]
  have he0 := gwd_at (G := G) (h := h) hs0
  have he1 := gwd_at (G := G) (h := h) hs1
  rw [gce_i] at he0 he1
  have hts := ok.2.2.2.2.2.1
  intro T0 hT0 X0
  have hz0 : H.size ≤ s.heap.size := by have := X0.heapSize; rw [hT0] at this; exact this
  refine va_copyi ok.1 ok.2.1 (ok.2.2.1.trans hl.1.symm) ok.2.2.2.2.1 (hts _ hlk) (hts _ gY_nat) (hts _ gY_sta) (hts _ gY_ini) ok.2.2.2.2.2.2.2.1.1 hr.1 (gwd_D G gSH h) hS k0 k1 0 0 he0 he1 rfl rfl rfl h1 h2 h3 h4 h5 (fun _ _ => rfl) (Nat.le_add_left 1 d) ?_ hd ?_ T0 hT0 X0
  · rw [gx_cats]
    have hnw : nativeFrameWords "java/lang/System" "arraycopy" 5 + 11 ≤ 60 := by decide +kernel
    show _ ≤ 80 * (d + 1)
    omega
  · intro H1 locs1 hP hD hS1 T hT X
    have hz1 : H1.size ≤ s.heap.size := by have := X.heapSize; rw [hT] at this; exact this
    refine k ok H1 locs1 la hl ⟨?_, ?_, hr.2.2⟩ hS1 T hT X
    · rw [gwd_set hs1 (sA_o h k1 _), gce_i, sA_s]
      exact hP
    · have e1 := hS.1
      have e2 := hS1.1
      have e3 := hr.2.1
      omega
end GCP
