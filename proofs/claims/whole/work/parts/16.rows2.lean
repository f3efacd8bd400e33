section GR2
variable {p : Program} {l : Launch} {e : Env} {R : Room} {s : State} {m : MethodId} {args : Array Value} {below : List Frame} {meth : Method} {c : Code} {G : gG} {M : gM} {sh : gS} {cells slots : Nat} {Z : State → Prop}
variable {pc : Nat} {ls : gLs} {st : List Value} {h : gH}
theorem go_getI' {idx ci j k : Nat} {v : Int32} (hd : decode M.2.1 pc = .ok (.getfield idx, 3)) (hf : gFl M.1.cls idx ci j) (hs : sh[k]? = some (ci, gN ci)) (ht : ∀ (G : gG) (h : gH), gfv G h k (gty ci j) j = .int (h.1 k j)) (hv : h.1 k j = v)
    (kk : Go p l e R s m args below meth c G M sh cells slots Z (pc + 3) ls (.int v :: st) h) : Go p l e R s m args below meth c G M sh cells slots Z pc ls (.ref k :: st) h := by
  subst hv
  exact go_getI hd hf hs ht kk
theorem go_getL' {idx ci j k : Nat} {v : Int64} (hd : decode M.2.1 pc = .ok (.getfield idx, 3)) (hf : gFl M.1.cls idx ci j) (hs : sh[k]? = some (ci, gN ci)) (ht : ∀ (G : gG) (h : gH), gfv G h k (gty ci j) j = .long (h.2.1 k j)) (hv : h.2.1 k j = v)
    (kk : Go p l e R s m args below meth c G M sh cells slots Z (pc + 3) ls (.long v :: st) h) : Go p l e R s m args below meth c G M sh cells slots Z pc ls (.ref k :: st) h := by
  subst hv
  exact go_getL hd hf hs ht kk
theorem go_iald' {k n : Nat} {i v : Int32} (hd : decode M.2.1 pc = .ok (.iaload, 1)) (hs : sh[k]? = some (20, n)) (hin : vp_in i n) (hv : h.1 k i.toNatClampNeg = v)
    (kk : Go p l e R s m args below meth c G M sh cells slots Z (pc + 1) ls (.int v :: st) h) : Go p l e R s m args below meth c G M sh cells slots Z pc ls (.int i :: .ref k :: st) h := by
  subst hv
  exact go_iald hd hs hin kk
theorem go_cald' {k n : Nat} {i v : Int32} (hd : decode M.2.1 pc = .ok (.caload, 1)) (hs : sh[k]? = some (22, n)) (hin : vp_in i n) (hv : h.1 k i.toNatClampNeg = v)
    (kk : Go p l e R s m args below meth c G M sh cells slots Z (pc + 1) ls (.int v :: st) h) : Go p l e R s m args below meth c G M sh cells slots Z pc ls (.int i :: .ref k :: st) h := by
  subst hv
  exact go_cald hd hs hin kk
theorem go_lald' {k n : Nat} {i : Int32} {v : Int64} (hd : decode M.2.1 pc = .ok (.laload, 1)) (hs : sh[k]? = some (21, n)) (hin : vp_in i n) (hv : h.2.1 k i.toNatClampNeg = v)
    (kk : Go p l e R s m args below meth c G M sh cells slots Z (pc + 1) ls (.long v :: st) h) : Go p l e R s m args below meth c G M sh cells slots Z pc ls (.int i :: .ref k :: st) h := by
  subst hv
  exact go_lald hd hs hin kk
theorem rlc_s {lk sp : Nat} {cd : Option Nat} (hR : h.2.2 = gRF lk sp cd) {x : Nat} (hx : x = 30 ∨ x = 67) {j : Nat} (hj : j < 3) : h.2.2 (x + 11) j = some (x + (12 + j)) := by
  rw [hR]
  match j, hj with
  | 0, _ => rcases hx with rfl | rfl <;> rfl
  | 1, _ => rcases hx with rfl | rfl <;> rfl
  | 2, _ => rcases hx with rfl | rfl <;> rfl
end GR2
section GR3
variable {p : Program} {l : Launch} {e : Env} {s : State} {m : MethodId} {args : Array Value} {below : List Frame} {meth : Method} {c : Code} {G : gG} {M : gM} {d pc : Nat} {Q : Option Value → gH → Prop} {ls : gLs} {st : List Value} {h : gH} {idx : Nat}
theorem g_mini : Cond.code Lib.Math.min.name Lib.Math.min.code 2 (some .int) ∈ gW := kJ9_min_7cf53.1
theorem g_maxi : Cond.code Lib.Math.max.name Lib.Math.max.code 2 (some .int) ∈ gW := kJ9_max_7cf53.1
theorem g_absi : Cond.code Lib.Math.abs.name Lib.Math.abs.code 1 (some .int) ∈ gW := kJ9_abs_0f7a4.1
theorem g_minl : Cond.code Lib.MathLoose.min_long.x Lib.MathLoose.min_long.code 4 (some .long) ∈ gW := kJ9_min_f86c9.1
theorem g_maxl : Cond.code Lib.MathLoose.max_long.x Lib.MathLoose.max_long.code 4 (some .long) ∈ gW := kJ9_max_f86c9.1
theorem go_min {x y : Int32} (hd : decode M.2.1 pc = .ok (.invokestatic idx, 3)) (hlk : Cond.methodLink M.1.cls idx yJ9_min_7cf53 ∈ gW) (hrm : (st.map fun v => v.category).sum ≤ 8) (k : gg p l e s m args below meth c G (d + 1) M Q (pc + 3) ls (.int (if y < x then y else x) :: st) h) : gg p l e s m args below meth c G (d + 1) M Q pc ls (.int y :: .int x :: st) h := by
  intro ok H locs la hl hr hS
  exact va_mmin ok.1 ok.2.1 (ok.2.2.1.trans hl.1.symm) ok.2.2.2.2.1 (ok.2.2.2.2.2.1 _ hlk) (ok.2.2.2.2.2.1 _ sJ9_min_7cf53) (ok.2.2.2.2.2.1 _ kJ9_min_7cf53.2.1) (ok.2.2.2.2.2.1 _ g_mini) (Nat.le_add_left 1 d) (by rw [gx_cats]; show _ ≤ 80 * (d + 1); omega) (Nat.le_refl _) (Nat.le_refl _) hd (k ok H locs la hl hr hS)
theorem go_max {x y : Int32} (hd : decode M.2.1 pc = .ok (.invokestatic idx, 3)) (hlk : Cond.methodLink M.1.cls idx yJ9_max_7cf53 ∈ gW) (hrm : (st.map fun v => v.category).sum ≤ 8) (k : gg p l e s m args below meth c G (d + 1) M Q (pc + 3) ls (.int (if x < y then y else x) :: st) h) : gg p l e s m args below meth c G (d + 1) M Q pc ls (.int y :: .int x :: st) h := by
  intro ok H locs la hl hr hS
  exact va_mmax ok.1 ok.2.1 (ok.2.2.1.trans hl.1.symm) ok.2.2.2.2.1 (ok.2.2.2.2.2.1 _ hlk) (ok.2.2.2.2.2.1 _ sJ9_max_7cf53) (ok.2.2.2.2.2.1 _ kJ9_max_7cf53.2.1) (ok.2.2.2.2.2.1 _ g_maxi) (Nat.le_add_left 1 d) (by rw [gx_cats]; show _ ≤ 80 * (d + 1); omega) (Nat.le_refl _) (Nat.le_refl _) hd (k ok H locs la hl hr hS)
theorem go_abs {x : Int32} (hd : decode M.2.1 pc = .ok (.invokestatic idx, 3)) (hlk : Cond.methodLink M.1.cls idx yJ9_abs_0f7a4 ∈ gW) (hrm : (st.map fun v => v.category).sum ≤ 8) (k : gg p l e s m args below meth c G (d + 1) M Q (pc + 3) ls (.int (if 0 ≤ x then x else 0 - x) :: st) h) : gg p l e s m args below meth c G (d + 1) M Q pc ls (.int x :: st) h := by
  intro ok H locs la hl hr hS
  exact va_mabs ok.1 ok.2.1 (ok.2.2.1.trans hl.1.symm) ok.2.2.2.2.1 (ok.2.2.2.2.2.1 _ hlk) (ok.2.2.2.2.2.1 _ sJ9_abs_0f7a4) (ok.2.2.2.2.2.1 _ kJ9_abs_0f7a4.2.1) (ok.2.2.2.2.2.1 _ g_absi) (Nat.le_add_left 1 d) (by rw [gx_cats]; show _ ≤ 80 * (d + 1); omega) (Nat.le_refl _) (Nat.le_refl _) hd (k ok H locs la hl hr hS)
theorem go_minL {x y : Int64} (hd : decode M.2.1 pc = .ok (.invokestatic idx, 3)) (hlk : Cond.methodLink M.1.cls idx yJ9_min_f86c9 ∈ gW) (hrm : (st.map fun v => v.category).sum ≤ 8) (k : gg p l e s m args below meth c G (d + 1) M Q (pc + 3) ls (.long (if y < x then y else x) :: st) h) : gg p l e s m args below meth c G (d + 1) M Q pc ls (.long y :: .long x :: st) h := by
  intro ok H locs la hl hr hS
  exact va_mmin_long ok.1 ok.2.1 (ok.2.2.1.trans hl.1.symm) ok.2.2.2.2.1 (ok.2.2.2.2.2.1 _ hlk) (ok.2.2.2.2.2.1 _ sJ9_min_f86c9) (ok.2.2.2.2.2.1 _ kJ9_min_f86c9.2.1) (ok.2.2.2.2.2.1 _ g_minl) (Nat.le_add_left 1 d) (by rw [gx_cats]; show _ ≤ 80 * (d + 1); omega) (Nat.le_refl _) (Nat.le_refl _) hd (k ok H locs la hl hr hS)
theorem go_maxL {x y : Int64} (hd : decode M.2.1 pc = .ok (.invokestatic idx, 3)) (hlk : Cond.methodLink M.1.cls idx yJ9_max_f86c9 ∈ gW) (hrm : (st.map fun v => v.category).sum ≤ 8) (k : gg p l e s m args below meth c G (d + 1) M Q (pc + 3) ls (.long (if y < x then x else y) :: st) h) : gg p l e s m args below meth c G (d + 1) M Q pc ls (.long y :: .long x :: st) h := by
  intro ok H locs la hl hr hS
  exact va_mmax_long ok.1 ok.2.1 (ok.2.2.1.trans hl.1.symm) ok.2.2.2.2.1 (ok.2.2.2.2.2.1 _ hlk) (ok.2.2.2.2.2.1 _ sJ9_max_f86c9) (ok.2.2.2.2.2.1 _ kJ9_max_f86c9.2.1) (ok.2.2.2.2.2.1 _ g_maxl) (Nat.le_add_left 1 d) (by rw [gx_cats]; show _ ≤ 80 * (d + 1); omega) (Nat.le_refl _) (Nat.le_refl _) hd (k ok H locs la hl hr hS)
end GR3
section GR4
variable {p : Program} {l : Launch} {e : Env} {R : Room} {s : State} {m : MethodId} {args : Array Value} {below : List Frame} {meth : Method} {c : Code} {G : gG} {M : gM} {sh : gS} {cells slots : Nat} {Z : State → Prop}
variable {pc : Nat} {ls : gLs} {st : List Value} {h : gH}
theorem go_callSN {idx n d mc ms : Nat} {she : gS} (Mc : gM) (As : List Value) {stk : List Value} (hd : decode M.2.1 pc = .ok (.invokestatic idx, 3)) (hlk : ∀ {U : State}, gX G U → va_Nw (.methodLinkNest M.1.cls idx Mc.1 RX11) U) (hcd : gCd Mc n) (hvi : gSt Mc) (hn : As.length = n)
    (hrm : (st.map fun v => v.category).sum ≤ 8) (hfr : d + 1 ≤ R.frames) (hlo : 80 * d + 59 ≤ R.locals) (hce : cells + mc ≤ R.cells ∧ slots + ms ≤ R.slots) (hst : stk = As.reverse ++ st)
    (hm : gCt l G d Mc sh she mc ms As h (fun r h' => Go p l e R s m args below meth c G M she (cells + mc) (slots + ms) Z (pc + 3) ls (r.toList ++ st) h')) : Go p l e R s m args below meth c G M sh cells slots Z pc ls stk h := by
  subst hst
  intro ok H locs la hl hr hS
  have hts := ok.2.2.2.2.2.1
  refine gx_back ok hl hS (va_runSN (As := As.map (gv G)) (rest := st.map (gv G)) (bytes := Mc.2.1) (maxL := Mc.2.2.1) (ret := Mc.2.2.2) (n := n) (host := RX11) ⟨ok.1, ok.2.1, ok.2.2.1, ok.2.2.2.2.1, hts⟩ hm ⟨?_, hts _ hvi, trivial⟩ ⟨gPc_blind _ _ _ _, gx_pre ok hr hS As⟩ rfl ?_ hl.1 ?_ ?_ hd hce) (fun _ _ q => q)
  · refine va_cnB n hts (gW_code hcd) rfl rfl rfl (hlk ok.2.2.2.2.2.2.2.1.2) (hts _ hcd.2.1) hcd.2.2.1 ⟨hfr, ?_⟩
    have := hcd.2.2.2
    show 8 + (Mc.2.2.1 + 11) + 80 * d ≤ R.locals
    omega
  · rw [List.length_map]; exact hn
  · show List.map (gv G) (As.reverse ++ st) = _
    rw [List.map_append, List.map_reverse]
  · show 2 * 0 + _ ≤ 8
    rw [gx_cats]
    omega
theorem gnI1 {d : Nat} {Q : Option Value → gH → Prop} {idx : Nat} {a1 : Value} {F : Int32 → gH → Prop} (Mc : gM) (hd : decode M.2.1 pc = .ok (.invokestatic idx, 3)) (hlk : ∀ {U : State}, gX G U → va_Nw (.methodLinkNest M.1.cls idx Mc.1 RX11) U) (hcd : gCd Mc 1) (hvi : gSt Mc) (hrm : (st.map fun v => v.category).sum ≤ 8) (hm : gC l G d Mc [a1] h (rI F)) (k : ∀ v h', F v h' → gg p l e s m args below meth c G (d + 1) M Q (pc + 3) ls (.int v :: st) h') : gg p l e s m args below meth c G (d + 1) M Q pc ls (a1 :: st) h := by
  refine go_callSN (d := d) (mc := 0) (ms := 0) (she := gSH) Mc [a1] hd hlk hcd hvi rfl hrm (Nat.le_refl _) (by show 80 * d + 59 ≤ 80 * (d + 1); omega) ⟨Nat.le_refl _, Nat.le_refl _⟩ rfl (hm.mono fun r h' q => ?_)
  obtain ⟨v, rfl, q⟩ := q
  exact k v h' q
end GR4
/-- fewer locals are told -/
def gle : gLs → gLs → Prop
  | [], [] => True
  | none :: a, _ :: b => gle a b
  | some v :: a, some w :: b => v = w ∧ gle a b
  | _, _ => False
theorem gle_len : ∀ {a b : gLs}, gle a b → a.length = b.length
  | [], [], _ => rfl
  | none :: a, _ :: b, h => by rw [List.length_cons, List.length_cons, gle_len (a := a) (b := b) h]
  | some v :: a, some w :: b, h => by rw [List.length_cons, List.length_cons, gle_len (a := a) (b := b) h.2]
  | some _ :: _, none :: _, h => h.elim
  | [], _ :: _, h => h.elim
  | none :: _, [], h => h.elim
  | some _ :: _, [], h => h.elim
theorem gle_at : ∀ {a b : gLs}, gle a b → ∀ (i : Nat) (v : Value), a[i]? = some (some v) → b[i]? = some (some v)
  | [], _, _, i, v, h => by simp at h
  | none :: a, _ :: b, h, i, v, hv => by
    cases i with
    | zero => simp at hv
    | succ i => simpa using gle_at (a := a) (b := b) h i v (by simpa using hv)
  | some w :: a, some w' :: b, h, i, v, hv => by
    cases i with
    | zero =>
      have e := h.1
      subst e
      simpa using hv
    | succ i => simpa using gle_at (a := a) (b := b) h.2 i v (by simpa using hv)
  | some _ :: _, none :: _, h, _, _, _ => h.elim
  | none :: _, [], h, _, _, _ => h.elim
  | some _ :: _, [], h, _, _, _ => h.elim
theorem go_weak {p : Program} {l : Launch} {e : Env} {R : Room} {s : State} {m : MethodId} {args : Array Value} {below : List Frame} {meth : Method} {c : Code} {G : gG} {M : gM} {sh : gS} {cells slots : Nat} {Z : State → Prop} {pc : Nat} {ls ls' : gLs} {st : List Value} {h : gH} (hle : gle ls' ls) (k : Go p l e R s m args below meth c G M sh cells slots Z pc ls' st h) : Go p l e R s m args below meth c G M sh cells slots Z pc ls st h := by
  intro ok H locs la hl hr hS
  exact k ok H locs la ⟨hl.1, (gle_len hle).trans hl.2.1, hl.2.2.1, fun i v hv => hl.2.2.2 i v (gle_at hle i v hv)⟩ hr hS
