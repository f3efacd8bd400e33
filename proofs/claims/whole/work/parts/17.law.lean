/-! THE CLAIM OUT OF ONE WALK OF THE LAW'S BODY. Your part is whole_start (and what it stands on); all else here is the same for every law, but numbers. -/
def R_law : String := "ShyBoatsLaw"
def lw_P (b : Addr) (xs : List Int32) (args : Array Value) (s : State) : Prop := args = #[.ref b] ∧ s.IntsAt b xs ∧ xs.length ≤ 3072 ∧ (Jvm.Cond.and given_1 narrow_1).before args s = true
def lw_Q (_ : Array Value) (s : State) (o : Outcome) (t : State) : Prop := o = .returned (some (.int 1)) ∧ Framed s o t [] 600000 7302250
def lw_Z (below : List Frame) (a : Array Value) (s : State) : State → Prop := fun t => ∃ o, t.status = .running ∧ Ended t below o ∧ lw_Q a s o t
/-- the law's own end, with 1 on the stack, nothing written that was there before, its room as the claim has it -/
theorem lw_ret {p : Program} {l : Launch} {e : Env} {s : State} {m : MethodId} {below : List Frame} {meth : Method} {c : Code} {b : Nat} (hx : p.tables.exec = Jvm.exec) (hb : c.code = code) (hr : meth.sig.returnType = ret) (hlocks : meth.locks = false) {pc : Nat} {H : Heap} {ls : Array Slot} (hdg : decode code pc = .ok (.ireturn, 1)) : W p l e room_1 s m #[Value.ref b] below meth c H [] 600000 7302250 (lw_Z below #[Value.ref b] s) (F0 m pc ls [.int 1]) := by
  intro T hT X
  obtain ⟨fs, hret, hrun, hended, hW, hframe⟩ := X.leave (v := some (.int 1)) (hlocks := hlocks) (fun h => by rw [hr] at h; cases h)
  have hmeth' : T.vm.method? m = some meth := X.method'
  refine ⟨T.setFrames fs, ?_, .returned (some (.int 1)), hrun, hended, rfl, ⟨_, rfl⟩, hW, hframe⟩
  jvm_step X.here [X.here.top, hx, hb, hdg, hmeth', hr, ret, narrow_b1]
  (try refine ⟨rfl, ?_⟩); (try refine ⟨rfl, ?_⟩)
  first | (intro acts; rw [hret _ acts rfl rfl rfl]) | rw [hret _ _ rfl rfl rfl]
  exact Steps.refl _
/-- what holds at the law's entry: the machine, the code, the tables' words (any of lw_tbl by 'hts w (by decide +kernel)'), the script of L ints xs at the cell b, what the Statement gives of the start (any of its parts by flat_of_before) -/
def lw_At (p : Program) (s : State) (m : MethodId) (meth : Method) (c : Code) (b L : Nat) (xs : Nat → Int32) : Prop :=
  p.tables.exec = Jvm.exec ∧ c.code = code ∧ meth.sig.returnType = ret ∧ c.maxLocals = 4 ∧ s.vm.findClass R_law = some m.cls ∧ (∀ w ∈ lw_tbl, w.before #[Value.ref b] s = true) ∧ va_X b L xs s s.heap ∧ b < s.heap.size ∧ meth.locks = false ∧ (Jvm.Cond.and given_1 narrow_1).before #[Value.ref b] s = true
def ML_law : gM := (x, code, 4, ret)
abbrev gl (p : Program) (l : Launch) (e : Env) (s : State) (m : MethodId) (below : List Frame) (meth : Method) (c : Code) (G : gG) (b : Nat) (pc : Nat) (ls : gLs) (st : List Value) (h : gH) : Prop :=
  Go p l e room_1 s m #[Value.ref b] below meth c G ML_law gSH 168 27013 (lw_Z below #[Value.ref b] s) pc ls st h
/-- the script: L ints xs at the cell b, ahead of all that the law makes -/
def gLw (G : gG) (s : State) (b L : Nat) (xs : Nat → Int32) : Prop := va_X b L xs s s.heap ∧ b < s.heap.size ∧ G.2.2.1 = s.heap.size ∧ G.2.2.2.1 7 = b
section GLW
variable {p : Program} {l : Launch} {e : Env} {s : State} {m : MethodId} {below : List Frame} {meth : Method} {c : Code} {G : gG} {b L : Nat} {xs : Nat → Int32} {pc : Nat} {ls : gLs} {st : List Value} {h : gH} {idx : Nat}
theorem go_sld {i : Int32} (hw : gLw G s b L xs) (hd : decode ML_law.2.1 pc = .ok (.iaload, 1)) (hin : vp_in i L) (k : gl p l e s m below meth c G b (pc + 1) ls (.int (xs i.toNatClampNeg) :: st) h) : gl p l e s m below meth c G b pc ls (.int i :: .ref 1000007 :: st) h := by
  intro ok H locs la hl hr hS
  show W p l e room_1 s m _ below meth c H locs _ _ _ (F0 m pc la (.int i :: .ref (ga G 1000007) :: st.map (gv G)))
  have eg : ga G 1000007 = b := ((if_neg (by decide)).trans (if_pos (by decide))).trans hw.2.2.2
  rw [eg]
  exact va_sld ok.1 ok.2.1 hw.1 hw.2.1 (by show ¬ G.2.2.1 ≤ b; rw [hw.2.2.1]; have := hw.2.1; omega) hS hin hd (k ok H locs la hl hr hS)
theorem go_slen (hw : gLw G s b L xs) (hd : decode ML_law.2.1 pc = .ok (.arraylength, 1)) (k : gl p l e s m below meth c G b (pc + 1) ls (.int (Int32.ofNat L) :: st) h) : gl p l e s m below meth c G b pc ls (.ref 1000007 :: st) h := by
  intro ok H locs la hl hr hS
  show W p l e room_1 s m _ below meth c H locs _ _ _ (F0 m pc la (.ref (ga G 1000007) :: st.map (gv G)))
  have eg : ga G 1000007 = b := ((if_neg (by decide)).trans (if_pos (by decide))).trans hw.2.2.2
  rw [eg]
  exact va_slen ok.1 ok.2.1 hw.1 hw.2.1 (by show ¬ G.2.2.1 ≤ b; rw [hw.2.2.1]; have := hw.2.1; omega) hS hd (k ok H locs la hl hr hS)
theorem go_lret1 (hw : gLw G s b L xs) (hd : decode code pc = .ok (.ireturn, 1)) : gl p l e s m below meth c G b pc ls [.int 1] h := by
  intro ok H locs la hl hr hS
  refine va_forget (fun q hq => ?_) ?_
  · have := hS.2.2 q hq
    rw [← hw.2.2.1]
    exact this
  · refine W.widen (k := 600000) (n := 7302250) (by decide) (by decide) ?_
    exact lw_ret ok.1 ok.2.1 ok.2.2.2.1 ok.2.2.2.2.2.2.1 hd
theorem glI0 {F : Int32 → gH → Prop} {k0 ci : Nat} (Mc : gM) (hd : decode ML_law.2.1 pc = .ok (.invokevirtual idx, 3)) (hlk : Cond.methodLink ML_law.1.cls idx Mc.1 ∈ gW) (hcd : gCd Mc 0) (hvi : gVi Mc) (hs : gSH[k0]? = some (ci, gN ci)) (hci : ci < 13) (hcn : gR ci = Mc.1.cls) (hrm : (st.map fun v => v.category).sum ≤ 8) (hm : gC l G 900 Mc (.ref k0 :: []) h (rI F)) (k : ∀ v h', F v h' → gl p l e s m below meth c G b (pc + 3) ls (.int v :: st) h') : gl p l e s m below meth c G b pc ls (.ref k0 :: st) h := by
  refine go_callV (d := 900) (mc := 0) (ms := 0) (she := gSH) Mc [] hd hlk hcd hvi hs hci hcn rfl hrm (by decide) (by decide) ⟨by decide, by decide⟩ rfl (hm.mono fun r h' q => ?_)
  obtain ⟨v, rfl, q⟩ := q
  exact k v h' q
theorem glI1 {a1 : Value} {F : Int32 → gH → Prop} {k0 ci : Nat} (Mc : gM) (hd : decode ML_law.2.1 pc = .ok (.invokevirtual idx, 3)) (hlk : Cond.methodLink ML_law.1.cls idx Mc.1 ∈ gW) (hcd : gCd Mc 1) (hvi : gVi Mc) (hs : gSH[k0]? = some (ci, gN ci)) (hci : ci < 13) (hcn : gR ci = Mc.1.cls) (hrm : (st.map fun v => v.category).sum ≤ 8) (hm : gC l G 900 Mc (.ref k0 :: [a1]) h (rI F)) (k : ∀ v h', F v h' → gl p l e s m below meth c G b (pc + 3) ls (.int v :: st) h') : gl p l e s m below meth c G b pc ls (a1 :: .ref k0 :: st) h := by
  refine go_callV (d := 900) (mc := 0) (ms := 0) (she := gSH) Mc [a1] hd hlk hcd hvi hs hci hcn rfl hrm (by decide) (by decide) ⟨by decide, by decide⟩ rfl (hm.mono fun r h' q => ?_)
  obtain ⟨v, rfl, q⟩ := q
  exact k v h' q
theorem glI2 {a1 a2 : Value} {F : Int32 → gH → Prop} {k0 ci : Nat} (Mc : gM) (hd : decode ML_law.2.1 pc = .ok (.invokevirtual idx, 3)) (hlk : Cond.methodLink ML_law.1.cls idx Mc.1 ∈ gW) (hcd : gCd Mc 2) (hvi : gVi Mc) (hs : gSH[k0]? = some (ci, gN ci)) (hci : ci < 13) (hcn : gR ci = Mc.1.cls) (hrm : (st.map fun v => v.category).sum ≤ 8) (hm : gC l G 900 Mc (.ref k0 :: [a1, a2]) h (rI F)) (k : ∀ v h', F v h' → gl p l e s m below meth c G b (pc + 3) ls (.int v :: st) h') : gl p l e s m below meth c G b pc ls (a2 :: a1 :: .ref k0 :: st) h := by
  refine go_callV (d := 900) (mc := 0) (ms := 0) (she := gSH) Mc [a1, a2] hd hlk hcd hvi hs hci hcn rfl hrm (by decide) (by decide) ⟨by decide, by decide⟩ rfl (hm.mono fun r h' q => ?_)
  obtain ⟨v, rfl, q⟩ := q
  exact k v h' q
theorem glI3 {a1 a2 a3 : Value} {F : Int32 → gH → Prop} {k0 ci : Nat} (Mc : gM) (hd : decode ML_law.2.1 pc = .ok (.invokevirtual idx, 3)) (hlk : Cond.methodLink ML_law.1.cls idx Mc.1 ∈ gW) (hcd : gCd Mc 3) (hvi : gVi Mc) (hs : gSH[k0]? = some (ci, gN ci)) (hci : ci < 13) (hcn : gR ci = Mc.1.cls) (hrm : (st.map fun v => v.category).sum ≤ 8) (hm : gC l G 900 Mc (.ref k0 :: [a1, a2, a3]) h (rI F)) (k : ∀ v h', F v h' → gl p l e s m below meth c G b (pc + 3) ls (.int v :: st) h') : gl p l e s m below meth c G b pc ls (a3 :: a2 :: a1 :: .ref k0 :: st) h := by
  refine go_callV (d := 900) (mc := 0) (ms := 0) (she := gSH) Mc [a1, a2, a3] hd hlk hcd hvi hs hci hcn rfl hrm (by decide) (by decide) ⟨by decide, by decide⟩ rfl (hm.mono fun r h' q => ?_)
  obtain ⟨v, rfl, q⟩ := q
  exact k v h' q
theorem glI4 {a1 a2 a3 a4 : Value} {F : Int32 → gH → Prop} {k0 ci : Nat} (Mc : gM) (hd : decode ML_law.2.1 pc = .ok (.invokevirtual idx, 3)) (hlk : Cond.methodLink ML_law.1.cls idx Mc.1 ∈ gW) (hcd : gCd Mc 4) (hvi : gVi Mc) (hs : gSH[k0]? = some (ci, gN ci)) (hci : ci < 13) (hcn : gR ci = Mc.1.cls) (hrm : (st.map fun v => v.category).sum ≤ 8) (hm : gC l G 900 Mc (.ref k0 :: [a1, a2, a3, a4]) h (rI F)) (k : ∀ v h', F v h' → gl p l e s m below meth c G b (pc + 3) ls (.int v :: st) h') : gl p l e s m below meth c G b pc ls (a4 :: a3 :: a2 :: a1 :: .ref k0 :: st) h := by
  refine go_callV (d := 900) (mc := 0) (ms := 0) (she := gSH) Mc [a1, a2, a3, a4] hd hlk hcd hvi hs hci hcn rfl hrm (by decide) (by decide) ⟨by decide, by decide⟩ rfl (hm.mono fun r h' q => ?_)
  obtain ⟨v, rfl, q⟩ := q
  exact k v h' q
theorem glI5 {a1 a2 a3 a4 a5 : Value} {F : Int32 → gH → Prop} {k0 ci : Nat} (Mc : gM) (hd : decode ML_law.2.1 pc = .ok (.invokevirtual idx, 3)) (hlk : Cond.methodLink ML_law.1.cls idx Mc.1 ∈ gW) (hcd : gCd Mc 5) (hvi : gVi Mc) (hs : gSH[k0]? = some (ci, gN ci)) (hci : ci < 13) (hcn : gR ci = Mc.1.cls) (hrm : (st.map fun v => v.category).sum ≤ 8) (hm : gC l G 900 Mc (.ref k0 :: [a1, a2, a3, a4, a5]) h (rI F)) (k : ∀ v h', F v h' → gl p l e s m below meth c G b (pc + 3) ls (.int v :: st) h') : gl p l e s m below meth c G b pc ls (a5 :: a4 :: a3 :: a2 :: a1 :: .ref k0 :: st) h := by
  refine go_callV (d := 900) (mc := 0) (ms := 0) (she := gSH) Mc [a1, a2, a3, a4, a5] hd hlk hcd hvi hs hci hcn rfl hrm (by decide) (by decide) ⟨by decide, by decide⟩ rfl (hm.mono fun r h' q => ?_)
  obtain ⟨v, rfl, q⟩ := q
  exact k v h' q
theorem glL0 {F : Int64 → gH → Prop} {k0 ci : Nat} (Mc : gM) (hd : decode ML_law.2.1 pc = .ok (.invokevirtual idx, 3)) (hlk : Cond.methodLink ML_law.1.cls idx Mc.1 ∈ gW) (hcd : gCd Mc 0) (hvi : gVi Mc) (hs : gSH[k0]? = some (ci, gN ci)) (hci : ci < 13) (hcn : gR ci = Mc.1.cls) (hrm : (st.map fun v => v.category).sum ≤ 8) (hm : gC l G 900 Mc (.ref k0 :: []) h (rL F)) (k : ∀ v h', F v h' → gl p l e s m below meth c G b (pc + 3) ls (.long v :: st) h') : gl p l e s m below meth c G b pc ls (.ref k0 :: st) h := by
  refine go_callV (d := 900) (mc := 0) (ms := 0) (she := gSH) Mc [] hd hlk hcd hvi hs hci hcn rfl hrm (by decide) (by decide) ⟨by decide, by decide⟩ rfl (hm.mono fun r h' q => ?_)
  obtain ⟨v, rfl, q⟩ := q
  exact k v h' q
theorem glL1 {a1 : Value} {F : Int64 → gH → Prop} {k0 ci : Nat} (Mc : gM) (hd : decode ML_law.2.1 pc = .ok (.invokevirtual idx, 3)) (hlk : Cond.methodLink ML_law.1.cls idx Mc.1 ∈ gW) (hcd : gCd Mc 1) (hvi : gVi Mc) (hs : gSH[k0]? = some (ci, gN ci)) (hci : ci < 13) (hcn : gR ci = Mc.1.cls) (hrm : (st.map fun v => v.category).sum ≤ 8) (hm : gC l G 900 Mc (.ref k0 :: [a1]) h (rL F)) (k : ∀ v h', F v h' → gl p l e s m below meth c G b (pc + 3) ls (.long v :: st) h') : gl p l e s m below meth c G b pc ls (a1 :: .ref k0 :: st) h := by
  refine go_callV (d := 900) (mc := 0) (ms := 0) (she := gSH) Mc [a1] hd hlk hcd hvi hs hci hcn rfl hrm (by decide) (by decide) ⟨by decide, by decide⟩ rfl (hm.mono fun r h' q => ?_)
  obtain ⟨v, rfl, q⟩ := q
  exact k v h' q
theorem glL2 {a1 a2 : Value} {F : Int64 → gH → Prop} {k0 ci : Nat} (Mc : gM) (hd : decode ML_law.2.1 pc = .ok (.invokevirtual idx, 3)) (hlk : Cond.methodLink ML_law.1.cls idx Mc.1 ∈ gW) (hcd : gCd Mc 2) (hvi : gVi Mc) (hs : gSH[k0]? = some (ci, gN ci)) (hci : ci < 13) (hcn : gR ci = Mc.1.cls) (hrm : (st.map fun v => v.category).sum ≤ 8) (hm : gC l G 900 Mc (.ref k0 :: [a1, a2]) h (rL F)) (k : ∀ v h', F v h' → gl p l e s m below meth c G b (pc + 3) ls (.long v :: st) h') : gl p l e s m below meth c G b pc ls (a2 :: a1 :: .ref k0 :: st) h := by
  refine go_callV (d := 900) (mc := 0) (ms := 0) (she := gSH) Mc [a1, a2] hd hlk hcd hvi hs hci hcn rfl hrm (by decide) (by decide) ⟨by decide, by decide⟩ rfl (hm.mono fun r h' q => ?_)
  obtain ⟨v, rfl, q⟩ := q
  exact k v h' q
theorem glL3 {a1 a2 a3 : Value} {F : Int64 → gH → Prop} {k0 ci : Nat} (Mc : gM) (hd : decode ML_law.2.1 pc = .ok (.invokevirtual idx, 3)) (hlk : Cond.methodLink ML_law.1.cls idx Mc.1 ∈ gW) (hcd : gCd Mc 3) (hvi : gVi Mc) (hs : gSH[k0]? = some (ci, gN ci)) (hci : ci < 13) (hcn : gR ci = Mc.1.cls) (hrm : (st.map fun v => v.category).sum ≤ 8) (hm : gC l G 900 Mc (.ref k0 :: [a1, a2, a3]) h (rL F)) (k : ∀ v h', F v h' → gl p l e s m below meth c G b (pc + 3) ls (.long v :: st) h') : gl p l e s m below meth c G b pc ls (a3 :: a2 :: a1 :: .ref k0 :: st) h := by
  refine go_callV (d := 900) (mc := 0) (ms := 0) (she := gSH) Mc [a1, a2, a3] hd hlk hcd hvi hs hci hcn rfl hrm (by decide) (by decide) ⟨by decide, by decide⟩ rfl (hm.mono fun r h' q => ?_)
  obtain ⟨v, rfl, q⟩ := q
  exact k v h' q
theorem glL4 {a1 a2 a3 a4 : Value} {F : Int64 → gH → Prop} {k0 ci : Nat} (Mc : gM) (hd : decode ML_law.2.1 pc = .ok (.invokevirtual idx, 3)) (hlk : Cond.methodLink ML_law.1.cls idx Mc.1 ∈ gW) (hcd : gCd Mc 4) (hvi : gVi Mc) (hs : gSH[k0]? = some (ci, gN ci)) (hci : ci < 13) (hcn : gR ci = Mc.1.cls) (hrm : (st.map fun v => v.category).sum ≤ 8) (hm : gC l G 900 Mc (.ref k0 :: [a1, a2, a3, a4]) h (rL F)) (k : ∀ v h', F v h' → gl p l e s m below meth c G b (pc + 3) ls (.long v :: st) h') : gl p l e s m below meth c G b pc ls (a4 :: a3 :: a2 :: a1 :: .ref k0 :: st) h := by
  refine go_callV (d := 900) (mc := 0) (ms := 0) (she := gSH) Mc [a1, a2, a3, a4] hd hlk hcd hvi hs hci hcn rfl hrm (by decide) (by decide) ⟨by decide, by decide⟩ rfl (hm.mono fun r h' q => ?_)
  obtain ⟨v, rfl, q⟩ := q
  exact k v h' q
theorem glL5 {a1 a2 a3 a4 a5 : Value} {F : Int64 → gH → Prop} {k0 ci : Nat} (Mc : gM) (hd : decode ML_law.2.1 pc = .ok (.invokevirtual idx, 3)) (hlk : Cond.methodLink ML_law.1.cls idx Mc.1 ∈ gW) (hcd : gCd Mc 5) (hvi : gVi Mc) (hs : gSH[k0]? = some (ci, gN ci)) (hci : ci < 13) (hcn : gR ci = Mc.1.cls) (hrm : (st.map fun v => v.category).sum ≤ 8) (hm : gC l G 900 Mc (.ref k0 :: [a1, a2, a3, a4, a5]) h (rL F)) (k : ∀ v h', F v h' → gl p l e s m below meth c G b (pc + 3) ls (.long v :: st) h') : gl p l e s m below meth c G b pc ls (a5 :: a4 :: a3 :: a2 :: a1 :: .ref k0 :: st) h := by
  refine go_callV (d := 900) (mc := 0) (ms := 0) (she := gSH) Mc [a1, a2, a3, a4, a5] hd hlk hcd hvi hs hci hcn rfl hrm (by decide) (by decide) ⟨by decide, by decide⟩ rfl (hm.mono fun r h' q => ?_)
  obtain ⟨v, rfl, q⟩ := q
  exact k v h' q
end GLW
