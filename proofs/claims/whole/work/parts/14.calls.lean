section GAR
variable {p : Program} {l : Launch} {e : Env} {R : Room} {s : State} {m : MethodId} {args : Array Value} {below : List Frame} {meth : Method} {c : Code} {G : gG} {M : gM} {sh : gS} {cells slots : Nat} {Z : State → Prop}
variable {pc : Nat} {ls : gLs} {st : List Value} {h : gH}
theorem go_iald {k n : Nat} {i : Int32} (hd : decode M.2.1 pc = .ok (.iaload, 1)) (hs : sh[k]? = some (20, n)) (hin : vp_in i n)
    (kk : Go p l e R s m args below meth c G M sh cells slots Z (pc + 1) ls (.int (h.1 k i.toNatClampNeg) :: st) h) : Go p l e R s m args below meth c G M sh cells slots Z pc ls (.int i :: .ref k :: st) h := by
  intro ok H locs la hl hr hS
  show W p l e R s m args below meth c H locs cells slots Z (F0 m pc la (.int i :: .ref (ga G k) :: st.map (gv G)))
  rw [hr.ga hs]
  have he := gwd_at (G := G) (h := h) hs
  rw [gce_i] at he
  exact va_iald ok.1 ok.2.1 ok.2.2.2.2.2.2.2.1.1 hr.1 k 0 he rfl hin hd (kk ok H locs la hl hr hS)
theorem go_cald {k n : Nat} {i : Int32} (hd : decode M.2.1 pc = .ok (.caload, 1)) (hs : sh[k]? = some (22, n)) (hin : vp_in i n)
    (kk : Go p l e R s m args below meth c G M sh cells slots Z (pc + 1) ls (.int (h.1 k i.toNatClampNeg) :: st) h) : Go p l e R s m args below meth c G M sh cells slots Z pc ls (.int i :: .ref k :: st) h := by
  intro ok H locs la hl hr hS
  show W p l e R s m args below meth c H locs cells slots Z (F0 m pc la (.int i :: .ref (ga G k) :: st.map (gv G)))
  rw [hr.ga hs]
  have he := gwd_at (G := G) (h := h) hs
  rw [gce_c] at he
  exact va_cald ok.1 ok.2.1 ok.2.2.2.2.2.2.2.1.1 hr.1 k 2 he rfl hin hd (kk ok H locs la hl hr hS)
theorem go_lald {k n : Nat} {i : Int32} (hd : decode M.2.1 pc = .ok (.laload, 1)) (hs : sh[k]? = some (21, n)) (hin : vp_in i n)
    (kk : Go p l e R s m args below meth c G M sh cells slots Z (pc + 1) ls (.long (h.2.1 k i.toNatClampNeg) :: st) h) : Go p l e R s m args below meth c G M sh cells slots Z pc ls (.int i :: .ref k :: st) h := by
  intro ok H locs la hl hr hS
  show W p l e R s m args below meth c H locs cells slots Z (F0 m pc la (.int i :: .ref (ga G k) :: st.map (gv G)))
  rw [hr.ga hs]
  have he := gwd_at (G := G) (h := h) hs
  rw [gce_l] at he
  exact va_lald ok.1 ok.2.1 ok.2.2.2.2.2.2.2.1.1 hr.1 k 1 he rfl hin hd (kk ok H locs la hl hr hS)
theorem go_aald {k n x : Nat} {i : Int32} (hd : decode M.2.1 pc = .ok (.aaload, 1)) (hs : sh[k]? = some (23, n)) (hin : vp_in i n) (hx : h.2.2 k i.toNatClampNeg = some x)
    (kk : Go p l e R s m args below meth c G M sh cells slots Z (pc + 1) ls (.ref x :: st) h) : Go p l e R s m args below meth c G M sh cells slots Z pc ls (.int i :: .ref k :: st) h := by
  intro ok H locs la hl hr hS
  show W p l e R s m args below meth c H locs cells slots Z (F0 m pc la (.int i :: .ref (ga G k) :: st.map (gv G)))
  rw [hr.ga hs]
  have he := gwd_at (G := G) (h := h) hs
  rw [gce_q] at he
  have hlt : i.toNatClampNeg < n := Nat.not_le.mp fun q => hin (Or.inr q)
  have hK := ok.2.2.2.2.2.2.2.1.1
  have hcell := hr.1 k _ he
  exact W.aald (v := .ref (ga G x)) (ty := .array .int) ok.1 ok.2.1 hcell ((hK.2 3 _ rfl).1 n (fun j => va_rf ((h.2.2 k j).map (ga G)))) rfl (fun q => by cases q) (by show ¬ (i < 0 ∨ (arrV _ _ _).slots.size ≤ _); rw [arrV_size]; exact hin) (by show (arrV _ _ _).slots[_]? = _; rw [arrV_read _ _ hlt]; show some (va_rf ((h.2.2 k i.toNatClampNeg).map (ga G))) = _; rw [hx]; rfl) rfl rfl hd (kk ok H locs la hl hr hS)
theorem go_alen {k n t : Nat} {v : Int32} (hd : decode M.2.1 pc = .ok (.arraylength, 1)) (hs : sh[k]? = some (t, n)) (ht : t = 20 ∨ t = 22) (hv : Int32.ofNat n = v)
    (kk : Go p l e R s m args below meth c G M sh cells slots Z (pc + 1) ls (.int v :: st) h) : Go p l e R s m args below meth c G M sh cells slots Z pc ls (.ref k :: st) h := by
  intro ok H locs la hl hr hS
  show W p l e R s m args below meth c H locs cells slots Z (F0 m pc la (.ref (ga G k) :: st.map (gv G)))
  rw [hr.ga hs]
  have he := gwd_at (G := G) (h := h) hs
  rcases ht with rfl | rfl
  · rw [gce_i] at he
    exact va_alen ok.1 ok.2.1 ok.2.2.2.2.2.2.2.1.1 hr.1 k 0 he rfl hv hd (kk ok H locs la hl hr hS)
  · rw [gce_c] at he
    exact va_alen ok.1 ok.2.1 ok.2.2.2.2.2.2.2.1.1 hr.1 k 2 he rfl hv hd (kk ok H locs la hl hr hS)
theorem sI_u (h : gH) (k i : Nat) (x : Int32) : (sI h k i x).1 k = upd (h.1 k) i x := by
  funext b
  show (if k = k then (if b = i then _ else _) else _) = _
  rw [if_pos rfl]
  rfl
theorem sL_u (h : gH) (k i : Nat) (x : Int64) : (sL h k i x).2.1 k = vp_updL (h.2.1 k) i x := by
  funext b
  show (if k = k then (if b = i then _ else _) else _) = _
  rw [if_pos rfl]
  rfl
theorem go_iast {k n : Nat} {i x : Int32} (hd : decode M.2.1 pc = .ok (.iastore, 1)) (hs : sh[k]? = some (20, n)) (hin : vp_in i n)
    (kk : Go p l e R s m args below meth c G M sh cells slots Z (pc + 1) ls st (sI h k i.toNatClampNeg x)) : Go p l e R s m args below meth c G M sh cells slots Z pc ls (.int x :: .int i :: .ref k :: st) h := by
  intro ok H locs la hl hr hS
  show W p l e R s m args below meth c H locs cells slots Z (F0 m pc la (.int x :: .int i :: .ref (ga G k) :: st.map (gv G)))
  rw [hr.ga hs]
  have he := gwd_at (G := G) (h := h) hs
  have he' := he
  rw [gce_i] at he
  have hK := ok.2.2.2.2.2.2.2.1.1
  have hD := gwd_D G sh h
  refine W.iast ok.1 ok.2.1 (hr.1 k _ he) ((hK.2 0 _ rfl).1 n (fun j => .int (h.1 k j))) (fun q => by cases q) (by show ¬ (i < 0 ∨ (arrV _ _ _).slots.size ≤ _); rw [arrV_size]; exact hin) rfl rfl hd fun H1 e1 z oq => ?_
  refine kk ok H1 _ la hl ⟨?_, by rw [z]; exact hr.2.1, hr.2.2⟩ (hS.put z oq (hD.2 k _ he))
  rw [gwd_set hs (sI_o h k _ x)]
  refine hr.1.set hD he' ?_ oq
  rw [gce_i, sI_u]
  show H1[_]? = some (vp_cell _ _)
  rw [e1, vp_cell_i, vp_cell_i, arrV_store]
  refine congrArg some (congrArg (arrV _ n) ?_)
  funext j
  unfold updV upd
  split <;> rfl
theorem go_last {k n : Nat} {i : Int32} {x : Int64} (hd : decode M.2.1 pc = .ok (.lastore, 1)) (hs : sh[k]? = some (21, n)) (hin : vp_in i n)
    (kk : Go p l e R s m args below meth c G M sh cells slots Z (pc + 1) ls st (sL h k i.toNatClampNeg x)) : Go p l e R s m args below meth c G M sh cells slots Z pc ls (.long x :: .int i :: .ref k :: st) h := by
  intro ok H locs la hl hr hS
  show W p l e R s m args below meth c H locs cells slots Z (F0 m pc la (.long x :: .int i :: .ref (ga G k) :: st.map (gv G)))
  rw [hr.ga hs]
  have he := gwd_at (G := G) (h := h) hs
  have he' := he
  rw [gce_l] at he
  have hK := ok.2.2.2.2.2.2.2.1.1
  have hD := gwd_D G sh h
  refine W.last ok.1 ok.2.1 (hr.1 k _ he) ((hK.2 1 _ rfl).1 n (fun j => .long (h.2.1 k j))) (fun q => by cases q) (by show ¬ (i < 0 ∨ (arrV _ _ _).slots.size ≤ _); rw [arrV_size]; exact hin) rfl rfl hd fun H1 e1 z oq => ?_
  refine kk ok H1 _ la hl ⟨?_, by rw [z]; exact hr.2.1, hr.2.2⟩ (hS.put z oq (hD.2 k _ he))
  rw [gwd_set hs (sL_o h k _ x)]
  refine hr.1.set hD he' ?_ oq
  rw [gce_l, sL_u]
  show H1[_]? = some (vp_cell _ _)
  rw [e1, vp_cell_l, vp_cell_l, arrV_store]
  refine congrArg some (congrArg (arrV _ n) ?_)
  funext j
  unfold updV vp_updL
  split <;> rfl
/-- behind a call -/
theorem gx_back {G : gG} {H : Heap} {locs : List Loc} {la : Array Slot} {st0 : List Value} {Qg : Option Value → gH → Prop} {she : gS} {mc ms : Nat} {a : Array Value} (ok : gOk p s m args meth c G M) (hl : gL G la M.2.2.1 ls) (hS : va_S (gA G) s.heap H locs)
    (hrun : va_Run p l e R s m args below meth c H locs cells slots mc ms (F0 m pc la st0) (st.map (gv G)) (gQc G she Qg a) (gA G)) (hQ : ∀ r h', Qg r h' → Go p l e R s m args below meth c G M she (cells + mc) (slots + ms) Z (pc + 3) ls (r.toList ++ st) h') :
    W p l e R s m args below meth c H locs cells slots Z (F0 m pc la st0) := by
  intro T hT X
  obtain ⟨v, st₀, t, T', L, h0, X', hL, e1, e2, ⟨⟨r, h', hv, hq, hr'⟩, hz, hk⟩, go⟩ := hrun T hT X
  cases hv
  rw [h0] at hz hk
  have hS' : va_S (gA G) s.heap T'.heap (locs ++ L) := by
    refine ⟨Nat.le_trans hS.1 (by rw [e1]; exact hz), fun q h1 h2 => ?_, fun q hq => ?_⟩
    · rw [e1, hk q (Nat.lt_of_lt_of_le h1 hS.1) h2]
      exact hS.2.1 q h1 h2
    · rcases List.mem_append.mp hq with h | h
      · exact hS.2.2 q h
      · exact hL q h
  obtain ⟨t2, a1, b1⟩ := hQ r h' hq ok T'.heap (locs ++ L) la hl (by rw [e1]; exact hr') hS' T' rfl X'
  refine ⟨t2, go t2 ?_, b1⟩
  have hst : (r.toList ++ st).map (gv G) = (r.map (gv G)).toList ++ st.map (gv G) := by cases r <;> rfl
  rw [hst] at a1
  exact a1
theorem gx_cats (G : gG) (st : List Value) : ((st.map (gv G)).map fun v => v.category).sum = (st.map fun v => v.category).sum := by
  rw [List.map_map]
  congr 1
  apply List.map_congr_left
  intro v _
  exact gv_cat G v
theorem gx_pre {H : Heap} {locs : List Loc} (ok : gOk p s m args meth c G M) (hr : gRel G sh h H) (hS : va_S (gA G) s.heap H locs) (av : List Value) : ∀ U : State, U.heap = H → s.WarmedH U.vm → gPc G sh h av (av.map (gv G)).toArray U := by
  intro U hU hW
  refine ⟨rfl, by rw [hU]; exact hr, va_K.moved hW.alike ok.2.2.2.2.2.2.2.1.1, gX.warm hW ?_ ok.2.2.2.2.2.2.2.1.2⟩
  intro a h1 h2
  rw [hU]
  exact hS.2.1 a h1 h2
theorem gW_code {M : gM} {n : Nat} (h : gCd M n) : GoodIn gW (gWm M) := fun w hw => (List.mem_cons.mp hw).elim (fun e => e ▸ gW_good _ h.1) (gW_good w)
theorem go_callV {idx k ci n d mc ms : Nat} {she : gS} (Mc : gM) (As : List Value) {stk : List Value} (hd : decode M.2.1 pc = .ok (.invokevirtual idx, 3)) (hlk : Cond.methodLink M.1.cls idx Mc.1 ∈ gW) (hcd : gCd Mc n) (hvi : gVi Mc) (hs : sh[k]? = some (ci, gN ci)) (hci : ci < 13) (hcn : gR ci = Mc.1.cls) (hn : As.length = n)
    (hrm : (st.map fun v => v.category).sum ≤ 8) (hfr : d + 1 ≤ R.frames) (hlo : 80 * d + 59 ≤ R.locals) (hce : cells + mc ≤ R.cells ∧ slots + ms ≤ R.slots) (hst : stk = As.reverse ++ .ref k :: st)
    (hm : gCt l G d Mc sh she mc ms (.ref k :: As) h (fun r h' => Go p l e R s m args below meth c G M she (cells + mc) (slots + ms) Z (pc + 3) ls (r.toList ++ st) h')) : Go p l e R s m args below meth c G M sh cells slots Z pc ls stk h := by
  subst hst
  intro ok H locs la hl hr hS
  have he := gwd_at (G := G) (h := h) hs
  rw [gce_obj hci] at he
  have hK := ok.2.2.2.2.2.2.2.1.1
  have hts := ok.2.2.2.2.2.1
  refine gx_back ok hl hS (va_runV (As := As.map (gv G)) (rest := st.map (gv G)) (C := Mc.1.cls) (b := ga G k) (bytes := Mc.2.1) (maxL := Mc.2.2.1) (ret := Mc.2.2.2) (n := n) ⟨ok.1, ok.2.1, ok.2.2.1, ok.2.2.2.2.1, hts⟩ hm ?_ ⟨gPc_blind _ _ _ _, ?_, ?_⟩ rfl ?_ hl.1 ?_ ?_ hd hce) (fun _ _ q => q)
  · refine ⟨⟨rfl, rfl, hfr, ?_, pay_in hts (gW_code hcd), List.mem_cons_self, hts _ hcd.1, hts _ hcd.2.1, ⟨hcd.2.2.1.1, hcd.2.2.1.2.1⟩, fun sig h9 => ?_, hts _ hlk⟩, hts _ hvi.1, hts _ hvi.2⟩
    · have := hcd.2.2.2
      show 8 + (Mc.2.2.1 + 11) + 80 * d ≤ R.locals
      omega
    · have h2 := hcd.2.2.1.2.2
      rw [h9] at h2
      exact (Option.some.inj h2).symm
  · rw [hr.ga hs, ← hcn]
    exact va_recv hK hr.1 (g_cl ci hci) he
  · exact gx_pre ok hr hS (.ref k :: As)
  · rw [List.length_map]; exact hn
  · show List.map (gv G) (As.reverse ++ .ref k :: st) = _
    rw [List.map_append, List.map_reverse]
    rfl
  · show 2 * 0 + _ ≤ 8
    rw [gx_cats]
    omega
theorem go_callS {idx n d mc ms : Nat} {she : gS} (Mc : gM) (As : List Value) {stk : List Value} (hd : decode M.2.1 pc = .ok (.invokestatic idx, 3)) (hlk : Cond.methodLink M.1.cls idx Mc.1 ∈ gW) (hcd : gCd Mc n) (hvi : gSt Mc) (hn : As.length = n)
    (hrm : (st.map fun v => v.category).sum ≤ 8) (hfr : d + 1 ≤ R.frames) (hlo : 80 * d + 59 ≤ R.locals) (hce : cells + mc ≤ R.cells ∧ slots + ms ≤ R.slots) (hst : stk = As.reverse ++ st)
    (hm : gCt l G d Mc sh she mc ms As h (fun r h' => Go p l e R s m args below meth c G M she (cells + mc) (slots + ms) Z (pc + 3) ls (r.toList ++ st) h')) : Go p l e R s m args below meth c G M sh cells slots Z pc ls stk h := by
  subst hst
  intro ok H locs la hl hr hS
  have hts := ok.2.2.2.2.2.1
  refine gx_back ok hl hS (va_runS (As := As.map (gv G)) (rest := st.map (gv G)) (bytes := Mc.2.1) (maxL := Mc.2.2.1) (ret := Mc.2.2.2) (n := n) ⟨ok.1, ok.2.1, ok.2.2.1, ok.2.2.2.2.1, hts⟩ hm ?_ ⟨gPc_blind _ _ _ _, gx_pre ok hr hS As⟩ rfl ?_ hl.1 ?_ ?_ hd hce) (fun _ _ q => q)
  · refine ⟨⟨rfl, rfl, hfr, ?_, pay_in hts (gW_code hcd), List.mem_cons_self, hts _ hcd.1, hts _ hcd.2.1, ⟨hcd.2.2.1.1, hcd.2.2.1.2.1⟩, fun sig h9 => ?_, hts _ hlk⟩, hts _ hvi⟩
    · have := hcd.2.2.2
      show 8 + (Mc.2.2.1 + 11) + 80 * d ≤ R.locals
      omega
    · have h2 := hcd.2.2.1.2.2
      rw [h9] at h2
      exact (Option.some.inj h2).symm
  · rw [List.length_map]; exact hn
  · show List.map (gv G) (As.reverse ++ st) = _
    rw [List.map_append, List.map_reverse]
  · show 2 * 0 + _ ≤ 8
    rw [gx_cats]
    omega
end GAR
