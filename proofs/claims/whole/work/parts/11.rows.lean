def gtys (G : gG) : List (ClassId × FieldType) := [(G.2.1.1, .int), (G.2.1.2.1, .long), (G.2.1.2.2.1, .char), (G.2.1.2.2.2, .array .int)]
def gtx0 : String := "lake row boat trust at hand skill likes calm rain fog storm dread grows falls coax depth wreck home sky balks ahead bold fear number across down boats or and not all min max first last often total most least "
def gtx1 : String := "hsdwl"
def gby (t : String) : List Int32 := t.toList.map (fun c => Int32.ofNat c.toNat)
/-- what the start gives of the strings, of the JDK's statics, of the two calls of a nest mate -/
def gX (G : gG) (U : State) : Prop := va_Nw (.methodLinkNest RX2 72 yX11_inTrust RX11) U ∧ va_Nw (.methodLinkNest RX9 50 yX11_inTrust RX11) U ∧ vk_R RX5 31 gtx0 (G.2.2.2.1 0) U ∧ vk_R RX7 139 gtx1 (G.2.2.2.1 1) U ∧
  vk_S 2 [gtx0.length, gtx1.length] [gby gtx0, gby gtx1] G.2.2.2.1 G.2.2.2.2.1 (gA G) U U.heap ∧ va_Z "java/lang/String" "COMPACT_STRINGS" "Z" (.int 1) (gA G) U U.heap ∧ va_Z "jdk/internal/util/Preconditions" "SIOOBE_FORMATTER" "Ljava/util/function/BiFunction;" G.2.2.2.2.2 (gA G) U U.heap ∧ (Cond.arrayOver (.array .int)).before #[] U = true ∧ G.2.2.2.2.2.category = 1
theorem ao_alike {u U : State} (hvm : u.vm.Alike U.vm) (h : (Cond.arrayOver (.array .int)).before #[] u = true) : (Cond.arrayOver (.array .int)).before #[] U = true := by
  have e := Cond.arrayOver_setVmC (args := #[]) hvm (.array .int)
  rw [h] at e
  exact e
theorem gX.moved {G : gG} {u U : State} (hv : U.vm = u.vm) (hh : U.heap = u.heap) (h : gX G u) : gX G U := by
  obtain ⟨h1, h2, h3, h4, h5, h6, h7, h8, h9⟩ := h
  have ha : u.vm.Alike U.vm := by rw [hv]; exact Vm.Alike.refl _
  exact ⟨h1.same rfl hv.symm, h2.same rfl hv.symm, h3.same hv, h4.same hv, by rw [hh]; exact h5.moved ha, by rw [hh]; exact h6.moved ha, by rw [hh]; exact h7.moved ha, ao_alike ha h8, h9⟩
theorem gX.warm {G : gG} {s U : State} (hW : s.WarmedH U.vm) (hk : ∀ a : Nat, a < s.heap.size → ¬ gA G a → U.heap[a]? = s.heap[a]?) (h : gX G s) : gX G U := by
  obtain ⟨h1, h2, h3, h4, h5, h6, h7, h8, h9⟩ := h
  exact ⟨h1.warmM hW, h2.warmM hW, h3.warm hW, h4.warm hW, (h5.moved hW.alike).kept hk, (h6.moved hW.alike).kept hk, (h7.moved hW.alike).kept hk, ao_alike hW.alike h8, h9⟩
def gK (G : gG) (U : State) : Prop := va_K G.1 vwCl (gtys G) U ∧ gX G U
def gOk (p : Program) (s : State) (m : MethodId) (args : Array Value) (meth : Method) (c : Code) (G : gG) (M : gM) : Prop :=
  p.tables.exec = Jvm.exec ∧ c.code = M.2.1 ∧ c.maxLocals = M.2.2.1 ∧ meth.sig.returnType = M.2.2.2 ∧ s.vm.findClass M.1.cls = some m.cls ∧ (∀ w ∈ gW, w.before args s = true) ∧ meth.locks = false ∧ gK G s ∧ G.2.2.1 ≤ s.heap.size
def Go (p : Program) (l : Launch) (e : Env) (R : Room) (s : State) (m : MethodId) (args : Array Value) (below : List Frame) (meth : Method) (c : Code) (G : gG) (M : gM) (sh : gS) (cells slots : Nat) (Z : State → Prop) (pc : Nat) (ls : gLs) (st : List Value) (h : gH) : Prop :=
  gOk p s m args meth c G M → ∀ (H : Heap) (locs : List Loc) (la : Array Slot), gL G la M.2.2.1 ls → gRel G sh h H → va_S (gA G) s.heap H locs →
    W p l e R s m args below meth c H locs cells slots Z (F0 m pc la (st.map (gv G)))
/-- a method's end: its answer and the heap behind it -/
def gQc (G : gG) (she : gS) (Q : Option Value → gH → Prop) : Array Value → State → Outcome → State → Prop := fun _ st oc t => (∃ (r : Option Value) (h' : gH), oc = .returned (r.map (gv G)) ∧ Q r h' ∧ gRel G she h' t.heap) ∧ va_F (gA G) st t
def gPc (G : gG) (sh : gS) (h : gH) (av : List Value) : Array Value → State → Prop := fun a U => a = (av.map (gv G)).toArray ∧ gRel G sh h U.heap ∧ gK G U
def gRm (d mc ms : Nat) : Room := { frames := d, cells := mc, slots := ms, locals := 80 * d }
def gWm (M : gM) : List Cond := Cond.code M.1 M.2.1 M.2.2.1 M.2.2.2 :: gW
/-- a contract: at depth d, from heap h, with arguments av: it returns, with Q -/
def gCt (l : Launch) (G : gG) (d : Nat) (M : gM) (sh she : gS) (mc ms : Nat) (av : List Value) (h : gH) (Q : Option Value → gH → Prop) : Prop :=
  Met l M.1 (gWm M) (gRm d mc ms) (gPc G sh h av) (gQc G she Q) mc ms (gA G)
def gZ (below : List Frame) (args : Array Value) (s : State) (G : gG) (she : gS) (mc ms : Nat) (Q : Option Value → gH → Prop) : State → Prop := MQ below (gQc G she Q) args s mc ms (gA G)
theorem gen_len (G : gG) : ∀ (vs : List Value), (lg_sl (vs.map (gv G))).length = (gen vs).length := by
  intro vs
  induction vs with
  | nil => rfl
  | cons v r ih =>
    show (lg_sl (gv G v :: r.map (gv G))).length = (gen (v :: r)).length
    unfold lg_sl gen at ih ⊢
    rw [List.flatMap_cons, List.flatMap_cons, List.length_append, List.length_append, ih, gv_cat]
    by_cases hc : v.category = 2 <;> simp [hc]
theorem gen_pre (G : gG) : ∀ (vs : List Value) (n i : Nat) (v : Value), (gen vs)[i]? = some (some v) → (n + i, gv G v) ∈ lv_args n (vs.map (gv G)) := by
  intro vs
  induction vs with
  | nil => intro n i v h; simp [gen] at h
  | cons w r ih =>
    intro n i v h
    unfold gen at h
    rw [List.flatMap_cons] at h
    show (n + i, gv G v) ∈ (n, gv G w) :: lv_args (if (gv G w).category = 2 then n + 2 else n + 1) (r.map (gv G))
    rw [gv_cat]
    by_cases hc : w.category = 2
    · rw [if_pos hc] at h ⊢
      match i, h with
      | 0, h =>
        have : w = v := by simpa using h
        subst this
        exact List.mem_cons_self
      | 1, h => simp at h
      | i + 2, h =>
        have := ih (n + 2) i v (by simpa [gen] using h)
        rw [show n + (i + 2) = n + 2 + i by omega]
        exact List.mem_cons_of_mem _ this
    · rw [if_neg hc] at h ⊢
      match i, h with
      | 0, h =>
        have : w = v := by simpa using h
        subst this
        exact List.mem_cons_self
      | i + 1, h =>
        have := ih (n + 1) i v (by simpa [gen] using h)
        rw [show n + (i + 1) = n + 1 + i by omega]
        exact List.mem_cons_of_mem _ this
theorem gL_entry (G : gG) {av : List Value} {n : Nat} {ls : gLs} (hl : gen av ++ List.replicate (n - (gen av).length) none = ls) (hn : (gen av).length ≤ n) : gL G ((lg_sl (av.map (gv G)) ++ List.replicate (n - (lg_sl (av.map (gv G))).length) Slot.unset).toArray) n ls := by
  have hE := lv_entry (av.map (gv G)) (n := n) (by rw [gen_len]; exact hn)
  refine ⟨hE.1, ?_, hE.2.1, ?_⟩
  · rw [← hl, List.length_append, List.length_replicate]; omega
  · intro i v hi
    subst hl
    by_cases hlt : i < (gen av).length
    · rw [List.getElem?_append_left hlt] at hi
      have := hE.2.2 _ (gen_pre G av 0 i v hi)
      simpa using this
    · rw [List.getElem?_append_right (by omega)] at hi
      have h2 := List.mem_of_getElem? hi
      have h3 := List.eq_of_mem_replicate h2
      cases h3
theorem gCt.of {l : Launch} {G : gG} {d : Nat} {M : gM} {sh she : gS} {mc ms : Nat} {av : List Value} {h : gH} {Q : Option Value → gH → Prop} {ls : gLs} (hy : plainName M.1.cls = true) (hl : gen av ++ List.replicate (M.2.2.1 - (gen av).length) none = ls) (hn : (gen av).length ≤ M.2.2.1)
    (k : ∀ (p : Program) (e : Env) (s : State) (m : MethodId) (args : Array Value) (below : List Frame) (meth : Method) (c : Code), Go p l e (gRm d mc ms) s m args below meth c G M sh 0 0 (gZ below args s G she mc ms Q) 0 ls [] h) : gCt l G d M sh she mc ms av h Q := by
  refine Met.ofW (cc := M.2.1) (maxL := M.2.2.1) (ret := M.2.2.2) hy rfl ?_
  intro p e s m args below meth c s₁ B hml hv
  obtain ⟨rfl, hR, hK⟩ := hv
  have hts := atoms_spec (ws := gWm M) B.pre
  rw [lg_entry_eq]
  refine k p e s m _ below meth c ⟨B.exec, B.bytes, hml, B.returns, findClass_of_methodNamed B.named, fun w hw => hts w (List.mem_cons_of_mem _ hw), B.notSynchronized, hK, ?_⟩ s.heap [] _ (gL_entry G hl hn) hR va_S.rf
  rw [hR.2.1]; exact Nat.le_add_right _ _
theorem gPc_blind (G : gG) (sh : gS) (h : gH) (av : List Value) : FrameBlind (gPc G sh h av) := fun a U g mk q => ⟨q.1, q.2.1, va_K.moved (u := U) (U := U.calling g mk a) (Vm.Alike.refl U.vm) q.2.2.1, gX.moved (u := U) rfl rfl q.2.2.2⟩
