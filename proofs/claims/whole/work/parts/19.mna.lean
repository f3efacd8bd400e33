def sM (h : gH) (k N : Nat) : gH := (fun a => if k ≤ a ∧ a ≤ k + N then fun _ => 0 else h.1 a, fun a => if k ≤ a ∧ a ≤ k + N then fun _ => 0 else h.2.1 a, fun a => if a = k then fun i => (if i < N then some (k + 1 + i) else none) else if k ≤ a ∧ a ≤ k + N then fun _ => none else h.2.2 a)
theorem mn_outer (c : ClassId) (N h0 : Nat) : ∀ i : Nat, Jvm.Free.Multi.outerC c N h0 i = arrV c N (fun j => va_rf (if j < i then some (h0 + 1 + j) else none))
  | 0 => by
    show ({ cls := c, slots := Array.replicate N .null, vm := .none } : Cell) = _
    unfold arrV
    congr 1
    apply Array.ext
    · simp
    · intro j h1 h2
      simp [va_rf]
  | i + 1 => by
    show (Jvm.Free.Multi.outerC c N h0 i).setSlot i (.ref (h0 + 1 + i)) = _
    rw [mn_outer c N h0 i, arrV_store]
    refine congrArg (arrV c N) ?_
    funext j
    unfold updV
    by_cases hj : j = i
    · subst hj
      simp [va_rf]
    · rw [if_neg hj]
      by_cases h2 : j < i
      · simp [h2, Nat.lt_succ_of_lt h2]
      · simp [h2, show ¬ j < i + 1 by omega]
section GMN
variable {p : Program} {l : Launch} {e : Env} {R : Room} {s : State} {m : MethodId} {args : Array Value} {below : List Frame} {meth : Method} {c : Code} {G : gG} {M : gM} {sh : gS} {cells slots : Nat} {Z : State → Prop}
variable {pc : Nat} {ls : gLs} {st : List Value} {h : gH}
theorem go_mna {idx : Nat} {n k : Int32} {N K : Nat} (hd : decode M.2.1 pc = .ok (.multianewarray idx 2, 4)) (hcl : Cond.classLink M.1.cls idx ("[" ++ (FieldType.array .int).toString) ∈ gW) (hac : Cond.arrayClass .int ∈ gW) (hN : n.toNatClampNeg = N) (hK0 : k.toNatClampNeg = K) (hn : ¬ n < 0) (hk : ¬ k < 0) (hb1 : N ≤ 1000) (hb2 : K ≤ 1000)
    (hce : cells + (1 + N) ≤ R.cells) (hsl : slots + (N + N * K) ≤ R.slots) (hb : sh.length + N < 999999)
    (kk : Go p l e R s m args below meth c G M (sh ++ ((23, N) :: List.replicate N (20, K))) (cells + 1 + N) (slots + N + N * K) Z (pc + 4) ls (.ref sh.length :: st) (sM h sh.length N)) : Go p l e R s m args below meth c G M sh cells slots Z pc ls (.int k :: .int n :: st) h := by
  intro ok H locs la hl hr hS
  have hts := ok.2.2.2.2.2.1
  have hK := ok.2.2.2.2.2.2.2.1.1
  subst hN
  subst hK0
  intro T hT Xs
  obtain ⟨vm₁, cA, comp, -, fA, fC, hO, -, X', step⟩ := Xs.multianewarray2F ok.1 (ty := .int) ok.2.2.2.2.1 (hts _ hcl) ok.2.2.2.2.2.2.2.1.2.2.2.2.2.2.2.2.1 (hts _ hac) (g := F0 m pc la (.int k :: .int n :: st.map (gv G))) rfl (by rw [ok.2.1]; exact hd) rfl hn hk (by omega) (by show k.toNatClampNeg * 4 ≤ _; omega) (by omega) rfl rfl hce hsl
  have hcI : G.2.1.1 = comp := Option.some.inj (((hK.2 0 _ rfl).2 : s.vm.findClass ("[" ++ FieldType.int.toString) = some G.2.1.1).symm.trans fC)
  have hcO : G.2.1.2.2.2 = cA := Option.some.inj (((hK.2 3 _ rfl).2 : s.vm.findClass ("[" ++ (FieldType.array .int).toString) = some G.2.1.2.2.2).symm.trans fA)
  generalize hF : Jvm.Free.Multi.fill (T.setVm vm₁) cA comp n.toNatClampNeg k.toNatClampNeg (defaultValue .int) n.toNatClampNeg = F at X' step
  have hTh : (T.setVm vm₁).heap = H := hT
  obtain ⟨f1, f2, -, -⟩ := Jvm.Free.Multi.fill_facts (T.setVm vm₁) cA comp n.toNatClampNeg k.toNatClampNeg (defaultValue .int) n.toNatClampNeg
  rw [hF, hTh] at f1 f2
  have hold : ∀ x : Nat, x < H.size → F.heap[x]? = H[x]? := fun x hx => by
    have := Jvm.Free.Multi.fill_old (T.setVm vm₁) cA comp n.toNatClampNeg k.toNatClampNeg (defaultValue .int) (a := x) (by rw [hTh]; exact hx) n.toNatClampNeg
    rw [hF, hTh] at this
    exact this
  have hrow : ∀ j : Nat, j < n.toNatClampNeg → F.heap[H.size + 1 + j]? = some (Jvm.Free.Multi.innerC comp k.toNatClampNeg (defaultValue .int)) := fun j hj => by
    have := Jvm.Free.Multi.fill_inner (T.setVm vm₁) cA comp n.toNatClampNeg k.toNatClampNeg (defaultValue .int) n.toNatClampNeg j hj
    rw [hF, hTh] at this
    exact this
  rw [mn_outer] at f2
  have hz := hr.2.1
  have hrel : gRel G (sh ++ ((23, n.toNatClampNeg) :: List.replicate n.toNatClampNeg (20, k.toNatClampNeg))) (sM h sh.length n.toNatClampNeg) F.heap := by
    refine ⟨?_, by rw [f1, hz]; simp; omega, by simp; omega⟩
    intro i x hx
    obtain ⟨q, hq, rfl⟩ := gwd_of hx
    by_cases h1 : i < sh.length
    · rw [List.getElem?_append_left h1] at hq
      have h9 : va_at G.1 vwCl (G.2.2.1 + i, gce G h i q) H := hr.1 i _ (gwd_at hq)
      have hc : gce G (sM h sh.length n.toNatClampNeg) i q = gce G h i q := gce_cong q (if_neg (by omega)) (if_neg (by omega)) ((if_neg (by omega)).trans (if_neg (by omega)))
      rw [hc]
      exact h9.kept (hold _ (by show G.2.2.1 + i < H.size; omega))
    · rw [List.getElem?_append_right (by omega)] at hq
      by_cases h2 : i = sh.length
      · subst h2
        simp at hq
        subst hq
        rw [gce_q]
        show F.heap[_]? = some (vp_cell _ _)
        rw [vp_cell_q, ← hz, f2, hcO]
        refine congrArg some (congrArg (arrV _ _) ?_)
        funext j
        show va_rf _ = va_rf (Option.map (ga G) ((if sh.length = sh.length then fun i => (if i < n.toNatClampNeg then some (sh.length + 1 + i) else none) else _) j))
        rw [if_pos rfl]
        by_cases hj : j < n.toNatClampNeg
        · simp only [if_pos hj, Option.map_some]
          rw [ga_lt (by omega), hz]
          congr 1
          congr 1
          omega
        · simp only [if_neg hj, Option.map_none]
      · have h3 : i - sh.length = (i - sh.length - 1) + 1 := by omega
        rw [h3, List.getElem?_cons_succ] at hq
        have h4 := List.mem_of_getElem? hq
        have h5 := List.eq_of_mem_replicate h4
        have h6 := (List.getElem?_eq_some_iff.mp hq).1
        rw [List.length_replicate] at h6
        subst h5
        rw [gce_i]
        show F.heap[_]? = some (vp_cell _ _)
        have h7 := hrow (i - sh.length - 1) h6
        rw [show H.size + 1 + (i - sh.length - 1) = G.2.2.1 + i by omega] at h7
        have hz1 : (sM h sh.length n.toNatClampNeg).1 i = fun _ => 0 := if_pos ⟨by omega, by omega⟩
        rw [h7, vp_cell_i, hz1, hcI]
        show some ({ cls := comp, slots := Array.replicate _ _, vm := .none } : Cell) = _
        refine congrArg some ?_
        unfold arrV
        congr 1
        apply Array.ext
        · simp
        · intro j h1 h2
          simp [defaultValue]
  have hS' : va_S (gA G) s.heap F.heap locs := ⟨by have := hS.1; omega, fun q h1 h2 => (hold q (by have := hS.1; omega)).trans (hS.2.1 q h1 h2), hS.2.2⟩
  obtain ⟨t, a1, b1⟩ := kk ok F.heap locs la hl hrel hS' F rfl X'
  refine ⟨t, step t ?_, b1⟩
  have eg : gv G (.ref sh.length) = .ref T.heap.size := by show Value.ref (ga G sh.length) = _; rw [ga_lt (by omega), hT, hz]
  have a2 : Steps p.tables e below (F.setTop (F0 m (pc + 4) la (gv G (.ref sh.length) :: st.map (gv G)))) t := a1
  rw [eg] at a2
  exact a2
end GMN
theorem tk0 {n : Nat} {q : Nat × Nat} (k : Nat) (hk : Nat.blt k n = true) (h : gSH[k]? = some q) : (gSH.take n)[k]? = some q := by
  rw [List.getElem?_take, if_pos (Nat.blt_eq.mp hk)]
  exact h
theorem tk_len {n : Nat} (hn : Nat.ble n 168 = true) : (gSH.take n).length = n := by
  rw [List.length_take]
  exact Nat.min_eq_left (Nat.le_of_ble_eq_true hn)
theorem tk_app {n : Nat} {q : Nat × Nat} (h : gSH[n]? = some q) : gSH.take n ++ [q] = gSH.take (n + 1) := by
  rw [List.take_succ, h]
  rfl
section GTK
variable {p : Program} {l : Launch} {e : Env} {R : Room} {s : State} {m : MethodId} {args : Array Value} {below : List Frame} {meth : Method} {c : Code} {G : gG} {M : gM} {cells slots n : Nat} {Z : State → Prop}
variable {pc : Nat} {ls : gLs} {st : List Value} {h : gH}
theorem gt_new {idx ci : Nat} (hs : gSH[n]? = some (ci, gN ci)) (hd : decode M.2.1 pc = .ok (.new idx, 3)) (hlk : Cond.classLink M.1.cls idx (gR ci) ∈ gW) (hi : Cond.instantiable (gR ci) (gN ci) ∈ gW) (hn : Cond.initialized (gR ci) ∈ gW) (hc : ci < 13) (hce : cells + 1 ≤ R.cells) (hsl : slots + gN ci ≤ R.slots) (hb : Nat.ble n 168 = true)
    (k : Go p l e R s m args below meth c G M (gSH.take (n + 1)) (cells + 1) (slots + gN ci) Z (pc + 3) ls (.ref n :: st) (sN h n)) : Go p l e R s m args below meth c G M (gSH.take n) cells slots Z pc ls st h := by
  have e1 := tk_len hb
  have hb' := Nat.le_of_ble_eq_true hb
  refine go_new (ci := ci) hd hlk hi hn hc hce hsl (by rw [e1]; omega) ?_
  rw [e1, tk_app hs]
  exact k
theorem gt_newI {x : Int32} {N : Nat} (hs : gSH[n]? = some (20, N)) (hd : decode M.2.1 pc = .ok (.newarray .int, 2)) (hN : x.toNatClampNeg = N) (h0 : ¬ x < 0) (hbt : N * 4 ≤ 536870912) (hce : cells + 1 ≤ R.cells) (hsl : slots + N ≤ R.slots) (hb : Nat.ble n 168 = true)
    (k : Go p l e R s m args below meth c G M (gSH.take (n + 1)) (cells + 1) (slots + N) Z (pc + 2) ls (.ref n :: st) (sN h n)) : Go p l e R s m args below meth c G M (gSH.take n) cells slots Z pc ls (.int x :: st) h := by
  have e1 := tk_len hb
  have hb' := Nat.le_of_ble_eq_true hb
  refine go_newI hd hN h0 hbt hce hsl (by rw [e1]; omega) acint ?_
  rw [e1, tk_app hs]
  exact k
theorem gt_newC {x : Int32} {N : Nat} (hs : gSH[n]? = some (22, N)) (hd : decode M.2.1 pc = .ok (.newarray .char, 2)) (hN : x.toNatClampNeg = N) (h0 : ¬ x < 0) (hbt : N * 2 ≤ 536870912) (hce : cells + 1 ≤ R.cells) (hsl : slots + N ≤ R.slots) (hb : Nat.ble n 168 = true)
    (k : Go p l e R s m args below meth c G M (gSH.take (n + 1)) (cells + 1) (slots + N) Z (pc + 2) ls (.ref n :: st) (sN h n)) : Go p l e R s m args below meth c G M (gSH.take n) cells slots Z pc ls (.int x :: st) h := by
  have e1 := tk_len hb
  have hb' := Nat.le_of_ble_eq_true hb
  refine go_newC hd hN h0 hbt hce hsl (by rw [e1]; omega) acchar ?_
  rw [e1, tk_app hs]
  exact k
theorem gt_newL {x : Int32} {N : Nat} (hs : gSH[n]? = some (21, N)) (hd : decode M.2.1 pc = .ok (.newarray .long, 2)) (hN : x.toNatClampNeg = N) (h0 : ¬ x < 0) (hbt : N * 8 ≤ 536870912) (hce : cells + 1 ≤ R.cells) (hsl : slots + N ≤ R.slots) (hb : Nat.ble n 168 = true)
    (k : Go p l e R s m args below meth c G M (gSH.take (n + 1)) (cells + 1) (slots + N) Z (pc + 2) ls (.ref n :: st) (sN h n)) : Go p l e R s m args below meth c G M (gSH.take n) cells slots Z pc ls (.int x :: st) h := by
  have e1 := tk_len hb
  have hb' := Nat.le_of_ble_eq_true hb
  refine go_newL hd hN h0 hbt hce hsl (by rw [e1]; omega) aclong ?_
  rw [e1, tk_app hs]
  exact k
theorem gt_mna {idx : Nat} {x y : Int32} (hd : decode M.2.1 pc = .ok (.multianewarray idx 2, 4)) (hcl : Cond.classLink M.1.cls idx ("[" ++ (FieldType.array .int).toString) ∈ gW) (hx : x.toNatClampNeg = 20) (hy : y.toNatClampNeg = 67) (h1 : ¬ x < 0) (h2 : ¬ y < 0) (hce : cells + (1 + 20) ≤ R.cells) (hsl : slots + (20 + 20 * 67) ≤ R.slots)
    (k : Go p l e R s m args below meth c G M (gSH.take 29) (cells + 1 + 20) (slots + 20 + 20 * 67) Z (pc + 4) ls (.ref 8 :: st) (sM h 8 20)) : Go p l e R s m args below meth c G M (gSH.take 8) cells slots Z pc ls (.int y :: .int x :: st) h := by
  have e1 : (gSH.take 8).length = 8 := tk_len rfl
  refine go_mna (N := 20) (K := 67) hd hcl acint hx hy h1 h2 (by omega) (by omega) hce hsl (by rw [e1]; omega) ?_
  rw [e1, show gSH.take 8 ++ ((23, 20) :: List.replicate 20 (20, 67)) = gSH.take 29 from rfl]
  exact k
theorem go_putN {sh : gS} {idx ci j k : Nat} {C : String} (hd : decode M.2.1 pc = .ok (.putfield idx, 3)) (hf : gFl M.1.cls idx ci j) (hs : sh[k]? = some (ci, gN ci)) (ht : gty ci j = .object C) (hfin : (gT ci j).2.2.2 = false)
    (kk : Go p l e R s m args below meth c G M sh cells slots Z (pc + 3) ls st (sR h k j none)) : Go p l e R s m args below meth c G M sh cells slots Z pc ls (.null :: .ref k :: st) h := by
  intro ok H locs la hl hr hS
  exact gx_put (h' := sR h k j none) (v := .null) ok hr hS hd hf hs hfin (by rw [ht]; rfl) (by rw [ht]; rfl) (by rw [ht]; show va_rf (Option.map (ga G) _) = _; rw [sR_s]; rfl) (sR_b h k j none) (sR_o h k j none) (fun H1 l1 r1 S1 => kk ok H1 l1 la hl r1 S1)
end GTK
