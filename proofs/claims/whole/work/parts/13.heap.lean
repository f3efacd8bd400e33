def sI (h : gH) (k i : Nat) (x : Int32) : gH := (fun a b => if a = k then (if b = i then x else h.1 a b) else h.1 a b, h.2.1, h.2.2)
def sL (h : gH) (k i : Nat) (x : Int64) : gH := (h.1, fun a b => if a = k then (if b = i then x else h.2.1 a b) else h.2.1 a b, h.2.2)
def sR (h : gH) (k i : Nat) (x : Option Nat) : gH := (h.1, h.2.1, fun a b => if a = k then (if b = i then x else h.2.2 a b) else h.2.2 a b)
theorem gce_cong {G : gG} {h h' : gH} {k : Nat} (q : Nat × Nat) (h1 : h'.1 k = h.1 k) (h2 : h'.2.1 k = h.2.1 k) (h3 : h'.2.2 k = h.2.2 k) : gce G h' k q = gce G h k q := by
  have hg : ∀ t j, gfv G h' k t j = gfv G h k t j := by
    intro t j
    unfold gfv
    rw [h1, h2, h3]
  unfold gce gob
  rw [h1, h2, h3]
  simp only [hg]
theorem gwd_set {G : gG} {sh : gS} {h h' : gH} {k : Nat} {q : Nat × Nat} (hq : sh[k]? = some q) (ho : ∀ a, a ≠ k → h'.1 a = h.1 a ∧ h'.2.1 a = h.2.1 a ∧ h'.2.2 a = h.2.2 a) : gwd G sh h' = (gwd G sh h).set k (G.2.2.1 + k, gce G h' k q) := by
  apply List.ext_getElem?
  intro i
  have hl : k < (gwd G sh h).length := (List.getElem?_eq_some_iff.mp (gwd_at (G := G) (h := h) hq)).1
  by_cases hi : i = k
  · subst hi
    rw [List.getElem?_set_self hl, gwd_at hq]
  · rw [List.getElem?_set_ne (Ne.symm hi)]
    cases hs : sh[i]? with
    | none =>
      have n1 : sh.length ≤ i := by simpa using hs
      have a1 : (gwd G sh h')[i]? = none := List.getElem?_eq_none (by unfold gwd; rw [List.length_mapIdx]; exact n1)
      have a2 : (gwd G sh h)[i]? = none := List.getElem?_eq_none (by unfold gwd; rw [List.length_mapIdx]; exact n1)
      rw [a1, a2]
    | some q' =>
      obtain ⟨e1, e2, e3⟩ := ho i hi
      rw [gwd_at hs, gwd_at hs, gce_cong q' e1 e2 e3]
theorem gob_at {G : gG} {h : gH} {k c n j : Nat} (hj : j < n) : (gob G h k c n)[j]? = some (gfv G h k (gty c j) j) := by
  unfold gob
  rw [List.getElem?_map, List.getElem?_range hj]
  rfl
theorem gob_len {G : gG} {h : gH} {k c n : Nat} : (gob G h k c n).length = n := by unfold gob; rw [List.length_map, List.length_range]
theorem gce_obj {G : gG} {h : gH} {k c n : Nat} (hc : c < 13) : gce G h k (c, n) = .inr (c, gob G h k c n) := by
  unfold gce
  rw [if_neg (by show ¬ c = 20; omega), if_neg (by show ¬ c = 21; omega), if_neg (by show ¬ c = 22; omega), if_neg (by show ¬ c = 23; omega)]
theorem gce_i {G : gG} {h : gH} {k n : Nat} : gce G h k (20, n) = .inl (G.2.1.1, n, .inl (h.1 k)) := rfl
theorem gce_l {G : gG} {h : gH} {k n : Nat} : gce G h k (21, n) = .inl (G.2.1.2.1, n, .inr (.inl (h.2.1 k))) := rfl
theorem gce_c {G : gG} {h : gH} {k n : Nat} : gce G h k (22, n) = .inl (G.2.1.2.2.1, n, .inl (h.1 k)) := rfl
theorem gce_q {G : gG} {h : gH} {k n : Nat} : gce G h k (23, n) = .inl (G.2.1.2.2.2, n, .inr (.inr (.inr (.inr (fun i => (h.2.2 k i).map (ga G)))))) := rfl
theorem gob_set {G : gG} {h h' : gH} {k c n j : Nat} {v : Value} (hj : j < n) (hv : gfv G h' k (gty c j) j = v) (ho : ∀ b, b ≠ j → h'.1 k b = h.1 k b ∧ h'.2.1 k b = h.2.1 k b ∧ h'.2.2 k b = h.2.2 k b) : gob G h' k c n = (gob G h k c n).set j v := by
  apply List.ext_getElem?
  intro i
  by_cases hi : i = j
  · subst hi
    rw [List.getElem?_set_self (by rw [gob_len]; exact hj), gob_at hj, hv]
  · rw [List.getElem?_set_ne (Ne.symm hi)]
    by_cases hn : i < n
    · obtain ⟨e1, e2, e3⟩ := ho i hi
      rw [gob_at hn, gob_at hn]
      unfold gfv
      rw [e1, e2, e3]
    · rw [List.getElem?_eq_none (by rw [gob_len]; omega), List.getElem?_eq_none (by rw [gob_len]; omega)]
section GHP
variable {p : Program} {l : Launch} {e : Env} {R : Room} {s : State} {m : MethodId} {args : Array Value} {below : List Frame} {meth : Method} {c : Code} {G : gG} {M : gM} {sh : gS} {cells slots : Nat} {Z : State → Prop}
variable {pc : Nat} {ls : gLs} {st : List Value} {h : gH}
theorem gx_get {H : Heap} {locs : List Loc} {la : Array Slot} {rest : List Value} {idx ci j k : Nat} {v : Value} (ok : gOk p s m args meth c G M) (hr : gRel G sh h H) (hd : decode M.2.1 pc = .ok (.getfield idx, 3)) (hf : gFl M.1.cls idx ci j) (hs : sh[k]? = some (ci, gN ci)) (hv : gfv G h k (gty ci j) j = v)
    (kk : W p l e R s m args below meth c H locs cells slots Z (F0 m (pc + 3) la (v :: rest))) : W p l e R s m args below meth c H locs cells slots Z (F0 m pc la (.ref (ga G k) :: rest)) := by
  rw [hr.ga hs]
  have he := gwd_at (G := G) (h := h) hs
  rw [gce_obj hf.2.1] at he
  exact va_get (C := gR ci) (T := gT ci) (N := gN ci) ok.1 ok.2.1 ok.2.2.2.2.2.1 (g_in ci hf.2.1) ok.2.2.2.2.1 ok.2.2.2.2.2.2.2.1.1 hr.1 k he (g_cl ci hf.2.1) j hf.2.2 (ok.2.2.2.2.2.1 _ hf.1) (fun _ h9 => h9) (by rw [gob_at hf.2.2, hv]) hd kk
theorem go_getI {idx ci j k : Nat} (hd : decode M.2.1 pc = .ok (.getfield idx, 3)) (hf : gFl M.1.cls idx ci j) (hs : sh[k]? = some (ci, gN ci)) (ht : ∀ (G : gG) (h : gH), gfv G h k (gty ci j) j = .int (h.1 k j))
    (kk : Go p l e R s m args below meth c G M sh cells slots Z (pc + 3) ls (.int (h.1 k j) :: st) h) : Go p l e R s m args below meth c G M sh cells slots Z pc ls (.ref k :: st) h := by
  intro ok H locs la hl hr hS
  exact gx_get ok hr hd hf hs (ht G h) (kk ok H locs la hl hr hS)
theorem go_getL {idx ci j k : Nat} (hd : decode M.2.1 pc = .ok (.getfield idx, 3)) (hf : gFl M.1.cls idx ci j) (hs : sh[k]? = some (ci, gN ci)) (ht : ∀ (G : gG) (h : gH), gfv G h k (gty ci j) j = .long (h.2.1 k j))
    (kk : Go p l e R s m args below meth c G M sh cells slots Z (pc + 3) ls (.long (h.2.1 k j) :: st) h) : Go p l e R s m args below meth c G M sh cells slots Z pc ls (.ref k :: st) h := by
  intro ok H locs la hl hr hS
  exact gx_get ok hr hd hf hs (ht G h) (kk ok H locs la hl hr hS)
theorem go_getR {idx ci j k x : Nat} (hd : decode M.2.1 pc = .ok (.getfield idx, 3)) (hf : gFl M.1.cls idx ci j) (hs : sh[k]? = some (ci, gN ci)) (ht : ∀ (G : gG) (h : gH), gfv G h k (gty ci j) j = va_rf ((h.2.2 k j).map (ga G))) (hx : h.2.2 k j = some x)
    (kk : Go p l e R s m args below meth c G M sh cells slots Z (pc + 3) ls (.ref x :: st) h) : Go p l e R s m args below meth c G M sh cells slots Z pc ls (.ref k :: st) h := by
  intro ok H locs la hl hr hS
  exact gx_get ok hr hd hf hs (by rw [ht G h, hx]; rfl) (kk ok H locs la hl hr hS)
theorem go_getN {idx ci j k : Nat} (hd : decode M.2.1 pc = .ok (.getfield idx, 3)) (hf : gFl M.1.cls idx ci j) (hs : sh[k]? = some (ci, gN ci)) (ht : ∀ (G : gG) (h : gH), gfv G h k (gty ci j) j = va_rf ((h.2.2 k j).map (ga G))) (hx : h.2.2 k j = none)
    (kk : Go p l e R s m args below meth c G M sh cells slots Z (pc + 3) ls (.null :: st) h) : Go p l e R s m args below meth c G M sh cells slots Z pc ls (.ref k :: st) h := by
  intro ok H locs la hl hr hS
  exact gx_get ok hr hd hf hs (by rw [ht G h, hx]; rfl) (kk ok H locs la hl hr hS)
theorem gx_put {h' : gH} {H : Heap} {locs : List Loc} {la : Array Slot} {rest : List Value} {idx ci j k : Nat} {v : Value} (ok : gOk p s m args meth c G M) (hr : gRel G sh h H) (hS0 : va_S (gA G) s.heap H locs) (hd : decode M.2.1 pc = .ok (.putfield idx, 3)) (hf : gFl M.1.cls idx ci j) (hs : sh[k]? = some (ci, gN ci)) (hfin : (gT ci j).2.2.2 = false) (hn : narrow (gty ci j) v = v) (hfit : fits (gty ci j) v = true)
    (hv : gfv G h' k (gty ci j) j = v) (ho : ∀ b, b ≠ j → h'.1 k b = h.1 k b ∧ h'.2.1 k b = h.2.1 k b ∧ h'.2.2 k b = h.2.2 k b) (ho2 : ∀ a, a ≠ k → h'.1 a = h.1 a ∧ h'.2.1 a = h.2.1 a ∧ h'.2.2 a = h.2.2 a)
    (kk : ∀ (H1 : Heap) (locs1 : List Loc), gRel G sh h' H1 → va_S (gA G) s.heap H1 locs1 → W p l e R s m args below meth c H1 locs1 cells slots Z (F0 m (pc + 3) la rest)) : W p l e R s m args below meth c H locs cells slots Z (F0 m pc la (v :: .ref (ga G k) :: rest)) := by
  rw [hr.ga hs]
  have he := gwd_at (G := G) (h := h) hs
  rw [gce_obj hf.2.1] at he
  have hts := ok.2.2.2.2.2.1
  have hK := ok.2.2.2.2.2.2.2.1.1
  have hin := g_in ci hf.2.1
  have hc := g_cl ci hf.2.1
  have hD := gwd_D G sh h
  have hap := va_apart (own := M.1.cls) hts hin (gty ci) (g_ty ci hf.2.1) (g_nm ci hf.2.1) hK hc
  obtain ⟨r, h1, cell, q1, q2, q3, q4⟩ := hr.1 k _ he
  have hr9 : r = (gR ci, gT ci, gN ci) := Option.some.inj (h1.symm.trans hc)
  subst hr9
  obtain ⟨hS, hfc, kC, hkC, hkind⟩ := hK.1 ci _ hc
  obtain ⟨cf, kf, fi, f, hi, hsl⟩ := hS j hf.2.2
  have hlay := hts _ (hin _ (u_in_lay hf.2.2))
  unfold u_lay at hlay
  rw [if_neg (by rw [hfin]; decide)] at hlay
  have hst := (u_facts hfc hkC (u_lays hts hin hf.2.2) hi).1
  have h6 := u_store hfc hkC hkind hlay hi (g_ty ci hf.2.1 j hf.2.2) hn hfit
  refine W.putK ok.1 ok.2.1 (f := f) ⟨ok.2.2.2.2.1, hts _ hf.1, ⟨_, _, _, hi⟩, hst⟩ (by rw [q2]; exact h6) q1 q3 (by rw [hsl]; exact k2_hasslot (q4 j hf.2.2)) rfl rfl hd fun H' e1 e2 e3 => ?_
  rw [hsl] at e1 ⊢
  refine kk H' _ ⟨?_, by rw [e2]; exact hr.2.1, hr.2.2⟩ (hS0.put e2 e3 (hD.2 k _ he))
  rw [gwd_set hs ho2, gce_obj hf.2.1, gob_set hf.2.2 hv ho]
  exact hr.1.set hD he ⟨_, hc, t_OB.to (V := updV (vp_V (gob G h k ci (gN ci))) j v) ⟨_, e1, q2, q3, t_set q4 hap hf.2.2 v⟩ (fun i _ => vp_updV_set (by rw [gob_len]; exact hf.2.2) v i)⟩ e3
theorem sI_o (h : gH) (k i : Nat) (x : Int32) : ∀ a, a ≠ k → (sI h k i x).1 a = h.1 a ∧ (sI h k i x).2.1 a = h.2.1 a ∧ (sI h k i x).2.2 a = h.2.2 a := fun a ha => ⟨by funext b; show (if a = k then _ else _) = _; rw [if_neg ha], rfl, rfl⟩
theorem sI_b (h : gH) (k i : Nat) (x : Int32) : ∀ b, b ≠ i → (sI h k i x).1 k b = h.1 k b ∧ (sI h k i x).2.1 k b = h.2.1 k b ∧ (sI h k i x).2.2 k b = h.2.2 k b := fun b hb => ⟨by show (if k = k then (if b = i then _ else _) else _) = _; rw [if_pos rfl, if_neg hb], rfl, rfl⟩
theorem sI_s (h : gH) (k i : Nat) (x : Int32) : (sI h k i x).1 k i = x := by show (if k = k then (if i = i then _ else _) else _) = _; rw [if_pos rfl, if_pos rfl]
theorem sL_o (h : gH) (k i : Nat) (x : Int64) : ∀ a, a ≠ k → (sL h k i x).1 a = h.1 a ∧ (sL h k i x).2.1 a = h.2.1 a ∧ (sL h k i x).2.2 a = h.2.2 a := fun a ha => ⟨rfl, by funext b; show (if a = k then _ else _) = _; rw [if_neg ha], rfl⟩
theorem sL_b (h : gH) (k i : Nat) (x : Int64) : ∀ b, b ≠ i → (sL h k i x).1 k b = h.1 k b ∧ (sL h k i x).2.1 k b = h.2.1 k b ∧ (sL h k i x).2.2 k b = h.2.2 k b := fun b hb => ⟨rfl, by show (if k = k then (if b = i then _ else _) else _) = _; rw [if_pos rfl, if_neg hb], rfl⟩
theorem sL_s (h : gH) (k i : Nat) (x : Int64) : (sL h k i x).2.1 k i = x := by show (if k = k then (if i = i then _ else _) else _) = _; rw [if_pos rfl, if_pos rfl]
theorem sR_o (h : gH) (k i : Nat) (x : Option Nat) : ∀ a, a ≠ k → (sR h k i x).1 a = h.1 a ∧ (sR h k i x).2.1 a = h.2.1 a ∧ (sR h k i x).2.2 a = h.2.2 a := fun a ha => ⟨rfl, rfl, by funext b; show (if a = k then _ else _) = _; rw [if_neg ha]⟩
theorem sR_b (h : gH) (k i : Nat) (x : Option Nat) : ∀ b, b ≠ i → (sR h k i x).1 k b = h.1 k b ∧ (sR h k i x).2.1 k b = h.2.1 k b ∧ (sR h k i x).2.2 k b = h.2.2 k b := fun b hb => ⟨rfl, rfl, by show (if k = k then (if b = i then _ else _) else _) = _; rw [if_pos rfl, if_neg hb]⟩
theorem sR_s (h : gH) (k i : Nat) (x : Option Nat) : (sR h k i x).2.2 k i = x := by show (if k = k then (if i = i then _ else _) else _) = _; rw [if_pos rfl, if_pos rfl]
theorem go_putI {idx ci j k : Nat} {x : Int32} (hd : decode M.2.1 pc = .ok (.putfield idx, 3)) (hf : gFl M.1.cls idx ci j) (hs : sh[k]? = some (ci, gN ci)) (ht : gty ci j = .int) (hfin : (gT ci j).2.2.2 = false)
    (kk : Go p l e R s m args below meth c G M sh cells slots Z (pc + 3) ls st (sI h k j x)) : Go p l e R s m args below meth c G M sh cells slots Z pc ls (.int x :: .ref k :: st) h := by
  intro ok H locs la hl hr hS
  exact gx_put (h' := sI h k j x) (v := .int x) ok hr hS hd hf hs hfin (by rw [ht]; rfl) (by rw [ht]; rfl) (by rw [ht]; show Value.int _ = _; rw [sI_s]) (sI_b h k j x) (sI_o h k j x) (fun H1 l1 r1 S1 => kk ok H1 l1 la hl r1 S1)
theorem go_putZ {idx ci j k : Nat} {x : Int32} (hd : decode M.2.1 pc = .ok (.putfield idx, 3)) (hf : gFl M.1.cls idx ci j) (hs : sh[k]? = some (ci, gN ci)) (ht : gty ci j = .boolean) (hfin : (gT ci j).2.2.2 = false) (hx : x = 0 ∨ x = 1)
    (kk : Go p l e R s m args below meth c G M sh cells slots Z (pc + 3) ls st (sI h k j x)) : Go p l e R s m args below meth c G M sh cells slots Z pc ls (.int x :: .ref k :: st) h := by
  intro ok H locs la hl hr hS
  exact gx_put (h' := sI h k j x) (v := .int x) ok hr hS hd hf hs hfin (by rw [ht]; rcases hx with rfl | rfl <;> rfl) (by rw [ht]; rcases hx with rfl | rfl <;> rfl) (by rw [ht]; show Value.int _ = _; rw [sI_s]) (sI_b h k j x) (sI_o h k j x) (fun H1 l1 r1 S1 => kk ok H1 l1 la hl r1 S1)
theorem go_putL {idx ci j k : Nat} {x : Int64} (hd : decode M.2.1 pc = .ok (.putfield idx, 3)) (hf : gFl M.1.cls idx ci j) (hs : sh[k]? = some (ci, gN ci)) (ht : gty ci j = .long) (hfin : (gT ci j).2.2.2 = false)
    (kk : Go p l e R s m args below meth c G M sh cells slots Z (pc + 3) ls st (sL h k j x)) : Go p l e R s m args below meth c G M sh cells slots Z pc ls (.long x :: .ref k :: st) h := by
  intro ok H locs la hl hr hS
  exact gx_put (h' := sL h k j x) (v := .long x) ok hr hS hd hf hs hfin (by rw [ht]; rfl) (by rw [ht]; rfl) (by rw [ht]; show Value.long _ = _; rw [sL_s]) (sL_b h k j x) (sL_o h k j x) (fun H1 l1 r1 S1 => kk ok H1 l1 la hl r1 S1)
theorem go_putR {idx ci j k x : Nat} {C : String} (hd : decode M.2.1 pc = .ok (.putfield idx, 3)) (hf : gFl M.1.cls idx ci j) (hs : sh[k]? = some (ci, gN ci)) (ht : gty ci j = .object C) (hfin : (gT ci j).2.2.2 = false)
    (kk : Go p l e R s m args below meth c G M sh cells slots Z (pc + 3) ls st (sR h k j (some x))) : Go p l e R s m args below meth c G M sh cells slots Z pc ls (.ref x :: .ref k :: st) h := by
  intro ok H locs la hl hr hS
  exact gx_put (h' := sR h k j (some x)) (v := .ref (ga G x)) ok hr hS hd hf hs hfin (by rw [ht]; rfl) (by rw [ht]; rfl) (by rw [ht]; show va_rf (Option.map (ga G) _) = _; rw [sR_s]; rfl) (sR_b h k j (some x)) (sR_o h k j (some x)) (fun H1 l1 r1 S1 => kk ok H1 l1 la hl r1 S1)
end GHP
