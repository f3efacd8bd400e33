def sN (h : gH) (k : Nat) : gH := (fun a => if a = k then fun _ => 0 else h.1 a, fun a => if a = k then fun _ => 0 else h.2.1 a, fun a => if a = k then fun _ => none else h.2.2 a)
theorem sN_o (h : gH) (k : Nat) : ∀ a, a ≠ k → (sN h k).1 a = h.1 a ∧ (sN h k).2.1 a = h.2.1 a ∧ (sN h k).2.2 a = h.2.2 a := fun a ha => ⟨if_neg ha, if_neg ha, if_neg ha⟩
theorem sN_s (h : gH) (k : Nat) : (sN h k).1 k = (fun _ => 0) ∧ (sN h k).2.1 k = (fun _ => 0) ∧ (sN h k).2.2 k = (fun _ => none) := ⟨if_pos rfl, if_pos rfl, if_pos rfl⟩
theorem gwd_len (G : gG) (sh : gS) (h : gH) : (gwd G sh h).length = sh.length := by unfold gwd; rw [List.length_mapIdx]
theorem gwd_cong {G : gG} {sh : gS} {h h' : gH} (ho : ∀ a, a < sh.length → h'.1 a = h.1 a ∧ h'.2.1 a = h.2.1 a ∧ h'.2.2 a = h.2.2 a) : gwd G sh h' = gwd G sh h := by
  apply List.ext_getElem?
  intro i
  cases hs : sh[i]? with
  | none =>
    have n1 : sh.length ≤ i := by simpa using hs
    rw [List.getElem?_eq_none (by rw [gwd_len]; exact n1), List.getElem?_eq_none (by rw [gwd_len]; exact n1)]
  | some q =>
    obtain ⟨e1, e2, e3⟩ := ho i (List.getElem?_eq_some_iff.mp hs).1
    rw [gwd_at hs, gwd_at hs, gce_cong q e1 e2 e3]
theorem gwd_app {G : gG} (sh : gS) (q : Nat × Nat) (h : gH) : gwd G (sh ++ [q]) h = gwd G sh h ++ [(G.2.2.1 + sh.length, gce G h sh.length q)] := by
  unfold gwd
  rw [List.mapIdx_append]
  simp
/-- a new cell behind all -/
theorem gRel.push {G : gG} {sh : gS} {h h' : gH} {H H1 : Heap} {q : Nat × Nat} (hr : gRel G sh h H) (hz : H1.size = G.2.2.1 + sh.length + 1) (ho : ∀ x, x < G.2.2.1 + sh.length → H1[x]? = H[x]?) (hb : sh.length < 1000000) (hh : ∀ a, a < sh.length → h'.1 a = h.1 a ∧ h'.2.1 a = h.2.1 a ∧ h'.2.2 a = h.2.2 a)
    (hn : va_at G.1 vwCl (G.2.2.1 + sh.length, gce G h' sh.length q) H1) : gRel G (sh ++ [q]) h' H1 := by
  refine ⟨?_, by rw [hz, List.length_append]; rfl, by rw [List.length_append]; show sh.length + 1 ≤ _; omega⟩
  rw [gwd_app, gwd_cong hh]
  refine (hr.1.kept (fun k x hx => ho x.1 ?_)).app (fun k x hx => ?_)
  · rw [← hr.2.1]; exact (hr.1 k x hx).lt
  · have h0 : k < 1 := (List.getElem?_eq_some_iff.mp hx).1
    rw [show k = 0 by omega] at hx
    cases hx
    exact hn
def gokT (t : FieldType) : Bool := match t with
  | .int => true | .long => true | .boolean => true | .object _ => true | .array _ => true | _ => false
theorem g_okT : ∀ c, c < 13 → ∀ k, k < gN c → gokT (gty c k) = true := g13 (by decide) (by decide) (by decide) (by decide) (by decide) (by decide) (by decide) (by decide) (by decide) (by decide) (by decide) (by decide) (by decide)
theorem gfv_0 {G : gG} {h : gH} {k j : Nat} {t : FieldType} (ht : gokT t = true) (h1 : h.1 k = (fun _ => 0)) (h2 : h.2.1 k = (fun _ => 0)) (h3 : h.2.2 k = (fun _ => none)) : defaultValue t = gfv G h k t j := by
  unfold gfv
  rw [h1, h2, h3]
  cases t <;> first | rfl | (simp [gokT] at ht)
section GAL
variable {p : Program} {l : Launch} {e : Env} {R : Room} {s : State} {m : MethodId} {args : Array Value} {below : List Frame} {meth : Method} {c : Code} {G : gG} {M : gM} {sh : gS} {cells slots : Nat} {Z : State → Prop}
variable {pc : Nat} {ls : gLs} {st : List Value} {h : gH}
theorem gS_new {H H1 : Heap} {locs : List Loc} {n k : Nat} (hr : H.size = n) (hz : H1.size = n + k) (ho : ∀ x, x < n → H1[x]? = H[x]?) (hS : va_S (gA G) s.heap H locs) : va_S (gA G) s.heap H1 locs :=
  ⟨by have := hS.1; omega, fun q h1 h2 => (ho q (by have := hS.1; omega)).trans (hS.2.1 q h1 h2), hS.2.2⟩
theorem go_new {idx ci : Nat} (hd : decode M.2.1 pc = .ok (.new idx, 3)) (hlk : Cond.classLink M.1.cls idx (gR ci) ∈ gW) (hi : Cond.instantiable (gR ci) (gN ci) ∈ gW) (hn : Cond.initialized (gR ci) ∈ gW) (hc : ci < 13) (hce : cells + 1 ≤ R.cells) (hsl : slots + gN ci ≤ R.slots) (hb : sh.length < 1000000)
    (k : Go p l e R s m args below meth c G M (sh ++ [(ci, gN ci)]) (cells + 1) (slots + gN ci) Z (pc + 3) ls (.ref sh.length :: st) (sN h sh.length)) : Go p l e R s m args below meth c G M sh cells slots Z pc ls st h := by
  intro ok H locs la hl hr hS
  have hts := ok.2.2.2.2.2.1
  have hKn := ok.2.2.2.2.2.2.2.1.1.1 ci _ (g_cl ci hc)
  refine W.newcK ok.1 ok.2.1 ok.2.2.2.2.1 (hts _ hlk) (hts _ hi) (hts _ hn) rfl hd hce hsl hKn.2.1 hr.2.1 fun H1 kC hkC e1 z1 o1 => ?_
  have hk := k ok H1 locs la hl (hr.push (h' := sN h sh.length) z1 o1 hb (fun a ha => sN_o h sh.length a (by omega)) ?_) (gS_new hr.2.1 z1 o1 hS)
  · have eg : gv G (.ref sh.length) = .ref (G.2.2.1 + sh.length) := by show Value.ref (ga G sh.length) = _; rw [ga_lt hb]
    have hk' : W p l e R s m args below meth c H1 locs (cells + 1) (slots + gN ci) Z (F0 m (pc + 3) la (gv G (.ref sh.length) :: st.map (gv G))) := hk
    rw [eg] at hk'
    exact hk'
  · rw [gce_obj hc]
    refine ⟨_, g_cl ci hc, (u_born (gty ci) hts (g_in ci hc) hKn hkC e1 (g_ty ci hc)).to (fun j hj => ?_)⟩
    show _ = (gob G (sN h sh.length) sh.length ci (gN ci)).getD j .null
    rw [List.getD_eq_getElem?_getD, gob_at hj]
    exact gfv_0 (g_okT ci hc j hj) (sN_s h _).1 (sN_s h _).2.1 (sN_s h _).2.2
theorem go_newI {n : Int32} {N : Nat} (hd : decode M.2.1 pc = .ok (.newarray .int, 2)) (hN : n.toNatClampNeg = N) (h0 : ¬ n < 0) (hbt : N * 4 ≤ 536870912) (hce : cells + 1 ≤ R.cells) (hsl : slots + N ≤ R.slots) (hb : sh.length < 1000000) (hac : Cond.arrayClass .int ∈ gW)
    (k : Go p l e R s m args below meth c G M (sh ++ [(20, N)]) (cells + 1) (slots + N) Z (pc + 2) ls (.ref sh.length :: st) (sN h sh.length)) : Go p l e R s m args below meth c G M sh cells slots Z pc ls (.int n :: st) h := by
  intro ok H locs la hl hr hS
  have hts := ok.2.2.2.2.2.1
  have hK := ok.2.2.2.2.2.2.2.1.1
  refine va_newaK (atype := .int) ok.1 ok.2.1 (hts _ hac) rfl hd rfl h0 hN hbt hce hsl hr.2.1 fun H1 cA e1 z1 o1 hAr hNm => ?_
  have hcA : G.2.1.1 = cA := Option.some.inj (((hK.2 0 _ rfl).2 : s.vm.findClass ("[" ++ FieldType.int.toString) = some G.2.1.1).symm.trans hNm)
  have hk := k ok H1 locs la hl (hr.push (h' := sN h sh.length) z1 o1 hb (fun a ha => sN_o h sh.length a (by omega)) ?_) (gS_new hr.2.1 z1 o1 hS)
  · have eg : gv G (.ref sh.length) = .ref (G.2.2.1 + sh.length) := by show Value.ref (ga G sh.length) = _; rw [ga_lt hb]
    have hk' : W p l e R s m args below meth c H1 locs (cells + 1) (slots + N) Z (F0 m (pc + 2) la (gv G (.ref sh.length) :: st.map (gv G))) := hk
    rw [eg] at hk'
    exact hk'
  · rw [gce_i, (sN_s h _).1]
    show H1[_]? = some (vp_cell _ _)
    rw [vp_cell_i, hcA]
    exact e1
theorem go_newC {n : Int32} {N : Nat} (hd : decode M.2.1 pc = .ok (.newarray .char, 2)) (hN : n.toNatClampNeg = N) (h0 : ¬ n < 0) (hbt : N * 2 ≤ 536870912) (hce : cells + 1 ≤ R.cells) (hsl : slots + N ≤ R.slots) (hb : sh.length < 1000000) (hac : Cond.arrayClass .char ∈ gW)
    (k : Go p l e R s m args below meth c G M (sh ++ [(22, N)]) (cells + 1) (slots + N) Z (pc + 2) ls (.ref sh.length :: st) (sN h sh.length)) : Go p l e R s m args below meth c G M sh cells slots Z pc ls (.int n :: st) h := by
  intro ok H locs la hl hr hS
  have hts := ok.2.2.2.2.2.1
  have hK := ok.2.2.2.2.2.2.2.1.1
  refine va_newaK (atype := .char) ok.1 ok.2.1 (hts _ hac) rfl hd rfl h0 hN hbt hce hsl hr.2.1 fun H1 cA e1 z1 o1 hAr hNm => ?_
  have hcA : G.2.1.2.2.1 = cA := Option.some.inj (((hK.2 2 _ rfl).2 : s.vm.findClass ("[" ++ FieldType.char.toString) = some G.2.1.2.2.1).symm.trans hNm)
  have hk := k ok H1 locs la hl (hr.push (h' := sN h sh.length) z1 o1 hb (fun a ha => sN_o h sh.length a (by omega)) ?_) (gS_new hr.2.1 z1 o1 hS)
  · have eg : gv G (.ref sh.length) = .ref (G.2.2.1 + sh.length) := by show Value.ref (ga G sh.length) = _; rw [ga_lt hb]
    have hk' : W p l e R s m args below meth c H1 locs (cells + 1) (slots + N) Z (F0 m (pc + 2) la (gv G (.ref sh.length) :: st.map (gv G))) := hk
    rw [eg] at hk'
    exact hk'
  · rw [gce_c, (sN_s h _).1]
    show H1[_]? = some (vp_cell _ _)
    rw [vp_cell_i, hcA]
    exact e1
theorem go_newL {n : Int32} {N : Nat} (hd : decode M.2.1 pc = .ok (.newarray .long, 2)) (hN : n.toNatClampNeg = N) (h0 : ¬ n < 0) (hbt : N * 8 ≤ 536870912) (hce : cells + 1 ≤ R.cells) (hsl : slots + N ≤ R.slots) (hb : sh.length < 1000000) (hac : Cond.arrayClass .long ∈ gW)
    (k : Go p l e R s m args below meth c G M (sh ++ [(21, N)]) (cells + 1) (slots + N) Z (pc + 2) ls (.ref sh.length :: st) (sN h sh.length)) : Go p l e R s m args below meth c G M sh cells slots Z pc ls (.int n :: st) h := by
  intro ok H locs la hl hr hS
  have hts := ok.2.2.2.2.2.1
  have hK := ok.2.2.2.2.2.2.2.1.1
  refine va_newaK (atype := .long) ok.1 ok.2.1 (hts _ hac) rfl hd rfl h0 hN hbt hce hsl hr.2.1 fun H1 cA e1 z1 o1 hAr hNm => ?_
  have hcA : G.2.1.2.1 = cA := Option.some.inj (((hK.2 1 _ rfl).2 : s.vm.findClass ("[" ++ FieldType.long.toString) = some G.2.1.2.1).symm.trans hNm)
  have hk := k ok H1 locs la hl (hr.push (h' := sN h sh.length) z1 o1 hb (fun a ha => sN_o h sh.length a (by omega)) ?_) (gS_new hr.2.1 z1 o1 hS)
  · have eg : gv G (.ref sh.length) = .ref (G.2.2.1 + sh.length) := by show Value.ref (ga G sh.length) = _; rw [ga_lt hb]
    have hk' : W p l e R s m args below meth c H1 locs (cells + 1) (slots + N) Z (F0 m (pc + 2) la (gv G (.ref sh.length) :: st.map (gv G))) := hk
    rw [eg] at hk'
    exact hk'
  · rw [gce_l, (sN_s h _).2.1]
    show H1[_]? = some (vp_cell _ _)
    rw [vp_cell_l, hcA]
    exact e1
theorem go_cast {k0 n : Nat} {i x : Int32} (hd : decode M.2.1 pc = .ok (.castore, 1)) (hs : sh[k0]? = some (22, n)) (hin : vp_in i n) (hx : narrow .char (.int x) = .int x)
    (kk : Go p l e R s m args below meth c G M sh cells slots Z (pc + 1) ls st (sI h k0 i.toNatClampNeg x)) : Go p l e R s m args below meth c G M sh cells slots Z pc ls (.int x :: .int i :: .ref k0 :: st) h := by
  intro ok H locs la hl hr hS
  show W p l e R s m args below meth c H locs cells slots Z (F0 m pc la (.int x :: .int i :: .ref (ga G k0) :: st.map (gv G)))
  rw [hr.ga hs]
  have he := gwd_at (G := G) (h := h) hs
  have he' := he
  rw [gce_c] at he
  have hK := ok.2.2.2.2.2.2.2.1.1
  have hD := gwd_D G sh h
  refine W.cast ok.1 ok.2.1 (hr.1 k0 _ he) ((hK.2 2 _ rfl).1 n (fun j => .int (h.1 k0 j))) (fun q => by cases q) (by show ¬ (i < 0 ∨ (arrV _ _ _).slots.size ≤ _); rw [arrV_size]; exact hin) rfl rfl hd fun H1 e1 z oq => ?_
  refine kk ok H1 _ la hl ⟨?_, by rw [z]; exact hr.2.1, hr.2.2⟩ (hS.put z oq (hD.2 k0 _ he))
  rw [gwd_set hs (sI_o h k0 _ x)]
  refine hr.1.set hD he' ?_ oq
  rw [gce_c, sI_u]
  show H1[_]? = some (vp_cell _ _)
  rw [e1, hx, vp_cell_i, vp_cell_i, arrV_store]
  refine congrArg some (congrArg (arrV _ n) ?_)
  funext j
  unfold updV upd
  split <;> rfl
theorem gx_putF {h' : gH} {H : Heap} {locs : List Loc} {la : Array Slot} {rest : List Value} {idx ci j k : Nat} {v : Value} (ok : gOk p s m args meth c G M) (hin2 : meth.name = "<init>") (hr : gRel G sh h H) (hS0 : va_S (gA G) s.heap H locs) (hd : decode M.2.1 pc = .ok (.putfield idx, 3)) (hf : gFl M.1.cls idx ci j) (hs : sh[k]? = some (ci, gN ci)) (hfin : (gT ci j).2.2.2 = true) (hdecl : (gT ci j).1 = M.1.cls) (hn : narrow (gty ci j) v = v) (hfit : fits (gty ci j) v = true)
    (hv : gfv G h' k (gty ci j) j = v) (ho : ∀ b, b ≠ j → h'.1 k b = h.1 k b ∧ h'.2.1 k b = h.2.1 k b ∧ h'.2.2 k b = h.2.2 k b) (ho2 : ∀ a, a ≠ k → h'.1 a = h.1 a ∧ h'.2.1 a = h.2.1 a ∧ h'.2.2 a = h.2.2 a)
    (kk : ∀ (H1 : Heap) (locs1 : List Loc), gRel G sh h' H1 → va_S (gA G) s.heap H1 locs1 → W p l e R s m args below meth c H1 locs1 cells slots Z (F0 m (pc + 3) la rest)) : W p l e R s m args below meth c H locs cells slots Z (F0 m pc la (v :: .ref (ga G k) :: rest)) := by
  rw [hr.ga hs]
  have he := gwd_at (G := G) (h := h) hs
  rw [gce_obj hf.2.1] at he
  have hts := ok.2.2.2.2.2.1
  have hK := ok.2.2.2.2.2.2.2.1.1
  have hin := g_in ci hf.2.1
  have hc := g_cl ci hf.2.1
  have hown := ok.2.2.2.2.1
  have hD := gwd_D G sh h
  have hap := va_apart (own := M.1.cls) hts hin (gty ci) (g_ty ci hf.2.1) (g_nm ci hf.2.1) hK hc
  obtain ⟨r, h1, cell, q1, q2, q3, q4⟩ := hr.1 k _ he
  have hr9 : r = (gR ci, gT ci, gN ci) := Option.some.inj (h1.symm.trans hc)
  subst hr9
  obtain ⟨hS, hfc, kC, hkC, hkind⟩ := hK.1 ci _ hc
  obtain ⟨cf, kf, fi, f, hi, hsl⟩ := hS j hf.2.2
  have hlay := hts _ (hin _ (u_in_lay hf.2.2))
  unfold u_lay at hlay
  rw [if_pos hfin] at hlay
  have hst := (u_facts hfc hkC (u_lays hts hin hf.2.2) hi).1
  have hcf : m.cls = cf := by
    obtain ⟨_, _, c', _, _, _, -, -, hf', -, -, -, hown2, -⟩ := Cond.laysFinal_spec hlay
    have e1 : c' = cf := by have := hi.symm.trans hf'; simp at this; exact this.1.symm
    rw [hdecl] at hown2
    rw [← e1]; exact Option.some.inj (hown.symm.trans hown2)
  have h6 := u_fits hfc hkC hkind (Or.inr hlay) hi (g_ty ci hf.2.1 j hf.2.2) hn hfit
  refine W.putFinK ok.1 ok.2.1 hown (hts _ hf.1) hi hst hcf hin2 (by rw [q2]; exact h6) q1 q3 (by rw [hsl]; exact k2_hasslot (q4 j hf.2.2)) rfl rfl hd fun H' e1 e2 e3 => ?_
  rw [hsl] at e1 ⊢
  refine kk H' _ ⟨?_, by rw [e2]; exact hr.2.1, hr.2.2⟩ (hS0.put e2 e3 (hD.2 k _ he))
  rw [gwd_set hs ho2, gce_obj hf.2.1, gob_set hf.2.2 hv ho]
  exact hr.1.set hD he ⟨_, hc, t_OB.to (V := updV (vp_V (gob G h k ci (gN ci))) j v) ⟨_, e1, q2, q3, t_set q4 hap hf.2.2 v⟩ (fun i _ => vp_updV_set (by rw [gob_len]; exact hf.2.2) v i)⟩ e3
theorem go_putFR {idx ci j k x : Nat} (hin : meth.name = "<init>") (hd : decode M.2.1 pc = .ok (.putfield idx, 3)) (hf : gFl M.1.cls idx ci j) (hs : sh[k]? = some (ci, gN ci)) (ht : (∃ C, gty ci j = .object C) ∨ ∃ t, gty ci j = .array t) (hfin : (gT ci j).2.2.2 = true) (hdecl : (gT ci j).1 = M.1.cls)
    (kk : Go p l e R s m args below meth c G M sh cells slots Z (pc + 3) ls st (sR h k j (some x))) : Go p l e R s m args below meth c G M sh cells slots Z pc ls (.ref x :: .ref k :: st) h := by
  intro ok H locs la hl hr hS
  refine gx_putF (h' := sR h k j (some x)) (v := .ref (ga G x)) ok hin hr hS hd hf hs hfin hdecl ?_ ?_ ?_ (sR_b h k j (some x)) (sR_o h k j (some x)) (fun H1 l1 r1 S1 => kk ok H1 l1 la hl r1 S1)
  · rcases ht with ⟨C, ht⟩ | ⟨t, ht⟩ <;> (rw [ht]; rfl)
  · rcases ht with ⟨C, ht⟩ | ⟨t, ht⟩ <;> (rw [ht]; rfl)
  · rcases ht with ⟨C, ht⟩ | ⟨t, ht⟩ <;> (rw [ht]; show va_rf (Option.map (ga G) _) = _; rw [sR_s]; rfl)
theorem go_objI {idx k : Nat} (hd : decode M.2.1 pc = .ok (.invokespecial idx, 3)) (hlk : Cond.methodLink M.1.cls idx objectInit ∈ gW) (hi : Cond.instanceMethod objectInit ∈ gW) (hcd : Cond.code objectInit ⟨#[0xb1]⟩ 1 none ∈ gW) (hfr : 1 ≤ R.frames) (hlo : (st.map fun v => v.category).sum + 12 ≤ R.locals)
    (kk : Go p l e R s m args below meth c G M sh cells slots Z (pc + 3) ls st h) : Go p l e R s m args below meth c G M sh cells slots Z pc ls (.ref k :: st) h := by
  intro ok H locs la hl hr hS
  have hts := ok.2.2.2.2.2.1
  exact W.objInit ok.1 ok.2.1 ok.2.2.2.2.1 (hts _ hlk) (hts _ hi) (hts _ hcd) rfl (hl.1.trans ok.2.2.1.symm) rfl hd hfr (by show 2 * 0 + _ + 12 ≤ _; rw [gx_cats]; omega) (kk ok H locs la hl hr hS)
theorem go_callI {idx k n d mc ms : Nat} {she : gS} (Mc : gM) (As : List Value) {stk : List Value} (hd : decode M.2.1 pc = .ok (.invokespecial idx, 3)) (hlk : Cond.methodLink M.1.cls idx Mc.1 ∈ gW) (hcd : gCd Mc n) (hnm : Mc.1.name = "<init>") (hret : Mc.2.2.2 = none) (hvi : Cond.instanceMethod Mc.1 ∈ gW) (hn : As.length = n)
    (hrm : (st.map fun v => v.category).sum ≤ 8) (hfr : d + 1 ≤ R.frames) (hlo : 80 * d + 59 ≤ R.locals) (hce : cells + mc ≤ R.cells ∧ slots + ms ≤ R.slots) (hst : stk = As.reverse ++ .ref k :: st)
    (hm : gCt l G d Mc sh she mc ms (.ref k :: As) h (fun r h' => Go p l e R s m args below meth c G M she (cells + mc) (slots + ms) Z (pc + 3) ls (r.toList ++ st) h')) : Go p l e R s m args below meth c G M sh cells slots Z pc ls stk h := by
  subst hst
  intro ok H locs la hl hr hS
  have hts := ok.2.2.2.2.2.1
  refine gx_back ok hl hS (va_runI (As := As.map (gv G)) (rest := st.map (gv G)) (b := ga G k) (bytes := Mc.2.1) (maxL := Mc.2.2.1) (n := n) ⟨ok.1, ok.2.1, ok.2.2.1, ok.2.2.2.2.1, hts⟩ hm ⟨?_, hnm, hts _ hvi⟩ ⟨gPc_blind _ _ _ _, gx_pre ok hr hS (.ref k :: As)⟩ rfl ?_ hl.1 ?_ ?_ hd hce) (fun _ _ q => q)
  · have h1 := hcd.1
    rw [hret] at h1
    refine ⟨rfl, rfl, hfr, ?_, pay_in hts (gW_code hcd), ?_, hts _ h1, hts _ hcd.2.1, ⟨hcd.2.2.1.1, hcd.2.2.1.2.1⟩, fun sig h9 => ?_, hts _ hlk⟩
    · have := hcd.2.2.2
      show 8 + (Mc.2.2.1 + 11) + 80 * d ≤ R.locals
      omega
    · unfold gWm
      rw [hret]
      exact List.mem_cons_self
    · have h2 := hcd.2.2.1.2.2
      rw [h9] at h2
      exact (Option.some.inj h2).symm
  · rw [List.length_map]; exact hn
  · show List.map (gv G) (As.reverse ++ .ref k :: st) = _
    rw [List.map_append, List.map_reverse]
    rfl
  · show 2 * 0 + _ ≤ 8
    rw [gx_cats]
    omega
end GAL
theorem gCt.ofI {l : Launch} {G : gG} {d : Nat} {M : gM} {sh she : gS} {mc ms : Nat} {av : List Value} {h : gH} {Q : Option Value → gH → Prop} {ls : gLs} (hy : plainName M.1.cls = true) (hl : gen av ++ List.replicate (M.2.2.1 - (gen av).length) none = ls) (hn : (gen av).length ≤ M.2.2.1)
    (k : ∀ (p : Program) (e : Env) (s : State) (m : MethodId) (args : Array Value) (below : List Frame) (meth : Method) (c : Code), meth.name = M.1.name → Go p l e (gRm d mc ms) s m args below meth c G M sh 0 0 (gZ below args s G she mc ms Q) 0 ls [] h) : gCt l G d M sh she mc ms av h Q := by
  refine Met.ofW (cc := M.2.1) (maxL := M.2.2.1) (ret := M.2.2.2) hy rfl ?_
  intro p e s m args below meth c s₁ B hml hv
  have hnm := (name_of_methodNamed B.named B.method).1
  obtain ⟨rfl, hR, hK⟩ := hv
  have hts := atoms_spec (ws := gWm M) B.pre
  rw [lg_entry_eq]
  refine k p e s m _ below meth c hnm ⟨B.exec, B.bytes, hml, B.returns, findClass_of_methodNamed B.named, fun w hw => hts w (List.mem_cons_of_mem _ hw), B.notSynchronized, hK, ?_⟩ s.heap [] _ (gL_entry G hl hn) hR va_S.rf
  rw [hR.2.1]; exact Nat.le_add_right _ _
