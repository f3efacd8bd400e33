def hZero : gH := (fun _ _ => 0, fun _ _ => 0, fun _ _ => none)
/-- the heap behind both constructors -/
def hStart : gH := eX12_init_82 (sN (eX11_init_0 (sN hZero 0)) 82)
def gtm (i : Nat) : Term := if i = 0 then .string RX5 31 else .string RX7 139
set_option maxRecDepth 100000 in
theorem law_begin {p : Program} {l : Launch} {e : Env} {s : State} {m : MethodId} {below : List Frame} {meth : Method} {c : Code} {G : gG} {b L : Nat} {xs : Nat → Int32} {Inv : Nat → gH → Prop} (hw : gLw G s b L xs) (hL : L ≤ 3072) (hst : gSteps l G Inv) (hmono : ∀ n h, Inv n h → Inv (n + 1) h) (h0 : Inv 0 hStart) :
    Go p l e room_1 s m #[Value.ref b] below meth c G ML_law (gSH.take 0) 0 0 (lw_Z below #[Value.ref b] s) 0 [some (.ref 1000007), none, none, none] [] hZero := by
  refine gt_new (ci := 11) sh0 dL_law_0 clL_7 in11 ini11 (by decide) (by decide) (by decide) rfl ?_
  refine go_dup dL_law_3 rfl ?_
  refine go_callI (d := 900) (mc := 81) (ms := 8740) (she := gSH.take 82) MX11_init [] dL_law_4 lL_9 kX11_init rfl rfl iX11_init rfl (Nat.le_of_ble_eq_true rfl) (by decide) (by decide) ⟨by decide, by decide⟩ rfl (cX11_init_0 (by decide) ?_)
  refine go_astore_n dL_law_7 (Nat.le_of_ble_eq_true rfl) ?_
  refine gt_new (ci := 12) sh82 dL_law_8 clL_10 in12 ini12 (by decide) (by decide) (by decide) rfl ?_
  refine go_dup dL_law_11 rfl ?_
  refine go_callI (d := 900) (mc := 85) (ms := 18142) (she := gSH.take 168) MX12_init [] dL_law_12 lL_12 kX12_init rfl rfl iX12_init rfl (Nat.le_of_ble_eq_true rfl) (by decide) (by decide) ⟨by decide, by decide⟩ rfl (cX12_init_82 (by decide) ?_)
  refine go_astore_n dL_law_15 (Nat.le_of_ble_eq_true rfl) ?_
  refine go_iconst (v := 0) dL_law_16 rfl ?_
  refine go_istore_n dL_law_17 (Nat.le_of_ble_eq_true rfl) ?_
  have hk := law_loop (p := p) (e := e) (m := m) (below := below) (meth := meth) (c := c) hw hL hst hmono (L + 6) 0 (by omega) (by omega) hStart h0
  have e1 : gSH.take 168 = gSH := rfl
  rw [e1]
  exact hk
theorem tb_nest1 : Cond.methodLinkNest RX2 72 yX11_inTrust RX11 ∈ lw_tbl := (List.mem_append_right _ (List.mem_append_right _ (List.mem_append_right _ (List.mem_append_right _ (List.mem_append_right _ (List.mem_append_left _ (List.mem_of_getElem? (i := 167) rfl)))))))
theorem tb_nest2 : Cond.methodLinkNest RX9 50 yX11_inTrust RX11 ∈ lw_tbl := (List.mem_append_right _ (List.mem_append_right _ (List.mem_append_right _ (List.mem_append_right _ (List.mem_append_left _ (List.mem_of_getElem? (i := 200) rfl))))))
theorem tb_over : Cond.arrayOver (.array .int) ∈ lw_tbl := (List.mem_append_right _ (List.mem_append_left _ (List.mem_of_getElem? (i := 166) rfl)))
theorem tb_str0 : Cond.stringRef RX5 31 gtx0 ∈ lw_tbl := (List.mem_append_right _ (List.mem_append_left _ (List.mem_of_getElem? (i := 36) rfl)))
theorem tb_str1 : Cond.stringRef RX7 139 gtx1 ∈ lw_tbl := (List.mem_append_right _ (List.mem_append_right _ (List.mem_append_right _ (List.mem_append_left _ (List.mem_of_getElem? (i := 96) rfl)))))
theorem tb_ls1 : Cond.laysStatic "java/lang/String" "COMPACT_STRINGS" "Z" ∈ lw_tbl := (List.mem_append_right _ (List.mem_append_left _ (List.mem_of_getElem? (i := 46) rfl)))
theorem tb_ls2 : Cond.laysStatic "jdk/internal/util/Preconditions" "SIOOBE_FORMATTER" "Ljava/util/function/BiFunction;" ∈ lw_tbl := (List.mem_append_right _ (List.mem_append_left _ (List.mem_of_getElem? (i := 62) rfl)))
theorem tb_in1 : Cond.initialized "java/lang/String" ∈ lw_tbl := (List.mem_append_right _ (List.mem_append_left _ (List.mem_of_getElem? (i := 3) rfl)))
theorem tb_in2 : Cond.initialized "jdk/internal/util/Preconditions" ∈ lw_tbl := (List.mem_append_right _ (List.mem_append_left _ (List.mem_of_getElem? (i := 5) rfl)))
abbrev gPre : Jvm.Cond := Jvm.Cond.and given_1 narrow_1
theorem pr_cs : Cond.eq (.static "java/lang/String" "COMPACT_STRINGS" "Z") (.int 1) ∈ flatC gPre := by decide +kernel
theorem pr_sf : Cond.isRef (.static "jdk/internal/util/Preconditions" "SIOOBE_FORMATTER" "Ljava/util/function/BiFunction;") ∈ flatC gPre := by decide +kernel
theorem pr_ex : ∀ i, i < 2 → Cond.exactly (gtm i) "java/lang/String" ∈ flatC gPre := by decide +kernel
theorem pr_co : ∀ i, i < 2 → Cond.eq (.field (gtm i) "java/lang/String" "coder" "B") (.int 0) ∈ flatC gPre := by decide +kernel
theorem pr_ar : ∀ i, i < 2 → Cond.arrayOf (.field (gtm i) "java/lang/String" "value" "[B") .byte ∈ flatC gPre := by decide +kernel
theorem pr_le : ∀ i, i < 2 → Cond.eq (.length (.field (gtm i) "java/lang/String" "value" "[B")) (.int (Int32.ofNat ([gtx0.length, gtx1.length].getD i 0))) ∈ flatC gPre := by decide +kernel
def gb0 : List Int32 := [108, 97, 107, 101, 32, 114, 111, 119, 32, 98, 111, 97, 116, 32, 116, 114, 117, 115, 116, 32, 97, 116, 32, 104, 97, 110, 100, 32, 115, 107, 105, 108, 108, 32, 108, 105, 107, 101, 115, 32, 99, 97, 108, 109, 32, 114, 97, 105, 110, 32, 102, 111, 103, 32, 115, 116, 111, 114, 109, 32, 100, 114, 101, 97, 100, 32, 103, 114, 111, 119, 115, 32, 102, 97, 108, 108, 115, 32, 99, 111, 97, 120, 32, 100, 101, 112, 116, 104, 32, 119, 114, 101, 99, 107, 32, 104, 111, 109, 101, 32, 115, 107, 121, 32, 98, 97, 108, 107, 115, 32, 97, 104, 101, 97, 100, 32, 98, 111, 108, 100, 32, 102, 101, 97, 114, 32, 110, 117, 109, 98, 101, 114, 32, 97, 99, 114, 111, 115, 115, 32, 100, 111, 119, 110, 32, 98, 111, 97, 116, 115, 32, 111, 114, 32, 97, 110, 100, 32, 110, 111, 116, 32, 97, 108, 108, 32, 109, 105, 110, 32, 109, 97, 120, 32, 102, 105, 114, 115, 116, 32, 108, 97, 115, 116, 32, 111, 102, 116, 101, 110, 32, 116, 111, 116, 97, 108, 32, 109, 111, 115, 116, 32, 108, 101, 97, 115, 116, 32]
def gb1 : List Int32 := [104, 115, 100, 119, 108]
theorem gb0_eq : gby gtx0 = gb0 := by decide +kernel
theorem gb1_eq : gby gtx1 = gb1 := by decide +kernel
set_option maxRecDepth 100000 in
theorem pr_e0 : (List.range 208).map (fun j => Cond.eq (.elem (.field (gtm 0) "java/lang/String" "value" "[B") (.int (Int32.ofNat j))) (.int (gb0.getD j 0))) = ((flatC gPre).drop 13).take 208 := by rfl
set_option maxRecDepth 100000 in
theorem pr_e1 : (List.range 5).map (fun j => Cond.eq (.elem (.field (gtm 1) "java/lang/String" "value" "[B") (.int (Int32.ofNat j))) (.int (gb1.getD j 0))) = ((flatC gPre).drop 225).take 5 := by rfl
theorem tx_len : gtx0.length = 208 ∧ gtx1.length = 5 := by decide +kernel
theorem pr_el : ∀ i, i < 2 → ∀ j, j < [gtx0.length, gtx1.length].getD i 0 → Cond.eq (.elem (.field (gtm i) "java/lang/String" "value" "[B") (.int (Int32.ofNat j))) (.int (([gby gtx0, gby gtx1].getD i []).getD j 0)) ∈ flatC gPre := by
  rw [tx_len.1, tx_len.2, gb0_eq, gb1_eq]
  intro i hi j hj
  match i, hi with
  | 0, _ =>
    have h1 : Cond.eq (.elem (.field (gtm 0) "java/lang/String" "value" "[B") (.int (Int32.ofNat j))) (.int (gb0.getD j 0)) ∈ ((flatC gPre).drop 13).take 208 := by
      rw [← pr_e0]
      exact List.mem_map.mpr ⟨j, List.mem_range.mpr hj, rfl⟩
    exact List.mem_of_mem_drop (List.mem_of_mem_take h1)
  | 1, _ =>
    have h1 : Cond.eq (.elem (.field (gtm 1) "java/lang/String" "value" "[B") (.int (Int32.ofNat j))) (.int (gb1.getD j 0)) ∈ ((flatC gPre).drop 225).take 5 := by
      rw [← pr_e1]
      exact List.mem_map.mpr ⟨j, List.mem_range.mpr hj, rfl⟩
    exact List.mem_of_mem_drop (List.mem_of_mem_take h1)
theorem pr_ne : Cond.not (Cond.eq (gtm 0) (gtm 1)) ∈ flatC gPre := by decide +kernel
theorem whole_of (Inv : Nat → gH → Prop) (hst : ∀ (l : Launch) (G : gG), gSteps l G Inv) (hmono : ∀ n h, Inv n h → Inv (n + 1) h) (h0 : Inv 0 hStart) {p : Program} {e : Env} {s : State} {m : MethodId} {below : List Frame} {meth : Method} {c : Code} (l : Launch) {b L : Nat} {xs : Nat → Int32} (hL : L ≤ 3072) (C0 : lw_At p s m meth c b L xs) : W p l e room_1 s m #[Value.ref b] below meth c s.heap [] 0 0 (lw_Z below #[Value.ref b] s) (entryFrame m ([Value.ref b] : List Value).toArray 4) := by
  obtain ⟨hx, hb, hr, hml, hown, hts, hX, hbl, hlocks, hgv⟩ := C0
  have hfl := flat_of_before _ hgv
  have hgw : ∀ w ∈ gW, w.before #[Value.ref b] s = true := fun w hw => hts w (gW_tbl hw)
  have hA : ∀ a : Nat, a < s.heap.size → ¬ (fun q => s.heap.size ≤ q) a := fun a h1 h2 => by have h2 : s.heap.size ≤ a := h2; omega
  have hKn : ∀ k : Nat, ∃ q : ClassId × (Nat → Nat), k < 13 → u_Kn s (gR k) (gT k) (gN k) q.1 q.2 := by
    intro k
    by_cases hk : k < 13
    · have hi : Cond.instantiable (gR k) (gN k) ∈ gW := g13 (P := fun k => Cond.instantiable (gR k) (gN k) ∈ gW) in0 in1 in2 in3 in4 in5 in6 in7 in8 in9 in10 in11 in12 k hk
      obtain ⟨cC, iS, h1⟩ := u_known hgw (g_in k hk) (hgw _ hi)
      exact ⟨(cC, iS), fun _ => h1⟩
    · exact ⟨(0, fun _ => 0), fun h => absurd h hk⟩
  obtain ⟨D, hD⟩ := Classical.axiomOfChoice hKn
  have arr : ∀ {ty : FieldType}, Cond.arrayClass ty ∈ gW → ∃ cA : ClassId, ArrOfT s cA ty ∧ s.vm.findClass ("[" ++ ty.toString) = some cA := by
    intro ty hty
    obtain ⟨cA, kA, comp, h1, h2, h3⟩ := Cond.arrayClass_spec (hgw _ hty)
    exact ⟨cA, fun n z => ⟨(fun q hq => by cases hq), kA, h2, comp, h3⟩, h1⟩
  obtain ⟨cI, hcI1, hcI2⟩ := arr acint
  obtain ⟨cJ, hcJ1, hcJ2⟩ := arr aclong
  obtain ⟨cC, hcC1, hcC2⟩ := arr acchar
  obtain ⟨compO, cO, kO, hO1, hO2, hO3, hO4⟩ := Cond.arrayOver_specA (hts _ tb_over)
  obtain ⟨adK, adV, hS, hSe⟩ := vk_Sof (args := #[Value.ref b]) (s := s) (N := 2) (tm := gtm) (len := [gtx0.length, gtx1.length]) (byt := [gby gtx0, gby gtx1]) (A := fun q => s.heap.size ≤ q) (by decide +kernel) (fun i hi => hfl _ (pr_ex i hi)) (fun i hi => hfl _ (pr_co i hi)) (fun i hi => hfl _ (pr_ar i hi)) (fun i hi => hfl _ (pr_le i hi)) (fun i hi j hj => hfl _ (pr_el i hi j hj)) (fun i j hi hj hij => by
    match i, j, hi, hj with
    | 0, 0, _, _ => exact absurd rfl hij
    | 0, 1, _, _ => exact Or.inl (hfl _ pr_ne)
    | 1, 0, _, _ => exact Or.inr (hfl _ pr_ne)
    | 1, 1, _, _ => exact absurd rfl hij) hA
  have hcs := va_Zof (A := fun q => s.heap.size ≤ q) (hts _ tb_ls1) (hts _ tb_in1) (va_eqt (hfl _ pr_cs)) hA
  obtain ⟨fv, hfv, hfc⟩ : ∃ v : Value, va_Z "jdk/internal/util/Preconditions" "SIOOBE_FORMATTER" "Ljava/util/function/BiFunction;" v (fun q => s.heap.size ≤ q) s s.heap ∧ v.category = 1 := by
    obtain ⟨v, h1, h2⟩ := Cond.isRef_spec (hfl _ pr_sf)
    refine ⟨v, va_Zof (hts _ tb_ls2) (hts _ tb_in2) h1 hA, ?_⟩
    cases v <;> first | rfl | (simp [Value.isRef] at h2)
  generalize hG : (((fun k => (D k).1, fun k => (D k).2), (cI, cJ, cC, cO), s.heap.size, (fun i => if i = 7 then b else adK i), adV, fv) : gG) = G
  have hGA : gA G = fun q => s.heap.size ≤ q := by rw [← hG]; rfl
  have hGb : G.2.2.1 = s.heap.size := by rw [← hG]
  have hGk : ∀ i, i < 2 → G.2.2.2.1 i = adK i := fun i hi => by rw [← hG]; exact if_neg (by omega)
  have hG7 : G.2.2.2.1 7 = b := by rw [← hG]; rfl
  have hGv : G.2.2.2.2.1 = adV := by rw [← hG]
  have hGf : G.2.2.2.2.2 = fv := by rw [← hG]
  have hK : va_K G.1 vwCl (gtys G) s := by
    subst hG
    refine ⟨fun k q hq => ?_, fun k q hq => ?_⟩
    · have hk : k < 13 := (List.getElem?_eq_some_iff.mp hq).1
      rw [g_cl k hk] at hq
      have hq := Option.some.inj hq
      subst hq
      exact hD k hk
    · match k, hq with
      | 0, hq => cases hq; exact ⟨hcI1, hcI2⟩
      | 1, hq => cases hq; exact ⟨hcJ1, hcJ2⟩
      | 2, hq => cases hq; exact ⟨hcC1, hcC2⟩
      | 3, hq => cases hq; exact ⟨fun n z => ⟨(fun q hq => by cases hq), kO, hO2, compO, hO3⟩, hO4⟩
      | k + 4, hq => simp [gtys] at hq
  have hXg : gX G s := by
    refine ⟨va_Nw.of rfl (hts _ tb_nest1), va_Nw.of rfl (hts _ tb_nest2), ?_, ?_, ?_, ?_, ?_, hts _ tb_over, ?_⟩
    · rw [hGk 0 (by decide)]
      exact vk_R.of (hts _ tb_str0) (hSe 0 (by decide))
    · rw [hGk 1 (by decide)]
      exact vk_R.of (hts _ tb_str1) (hSe 1 (by decide))
    · rw [hGA, hGv]
      refine ⟨fun i hi => ?_, fun i j hi hj hij => ?_⟩
      · rw [hGk i hi]
        exact hS.1 i hi
      · rw [hGk i hi, hGk j hj] at hij
        exact hS.2 i j hi hj hij
    · rw [hGA]; exact hcs
    · rw [hGA, hGf]; exact hfv
    · rw [hGf]; exact hfc
  have hw : gLw G s b L xs := ⟨hX, hbl, hGb, hG7⟩
  have eg : gv G (.ref 1000007) = .ref b := by
    show Value.ref (ga G 1000007) = _
    rw [show ga G 1000007 = b from ((if_neg (by decide)).trans (if_pos (by decide))).trans hG7]
  have hgo := law_begin (p := p) (e := e) (m := m) (below := below) (meth := meth) (c := c) hw hL (hst l G) hmono h0
  have hl : gL G ((lg_sl ([.ref b]) ++ List.replicate (4 - (lg_sl ([.ref b])).length) Slot.unset).toArray) 4 [some (.ref 1000007), none, none, none] := by
    have h9 := gL_entry G (av := [.ref 1000007]) (n := 4) (ls := [some (.ref 1000007), none, none, none]) rfl (by decide)
    rw [show List.map (gv G) [Value.ref 1000007] = [Value.ref b] from by rw [List.map_cons, eg]; rfl] at h9
    exact h9
  rw [lg_entry_eq]
  refine hgo ⟨hx, hb, hml, hr, hown, hgw, hlocks, ⟨hK, hXg⟩, by rw [hGb]; exact Nat.le_refl _⟩ s.heap [] _ hl ⟨?_, ?_, by decide⟩ va_S.rf
  · intro k q hq
    simp [gwd] at hq
  · rw [hGb]; rfl
