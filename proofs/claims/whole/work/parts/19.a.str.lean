/-! the two string constants: cells 1000000 + i, their bytes 2000000 + i -/
theorem gsk {G : gG} {i : Nat} (hi : i < 1000) : ga G (1000000 + i) = G.2.2.2.1 i := by
  unfold ga
  rw [if_neg (by omega), if_pos (by omega), Nat.add_sub_cancel_left]
theorem gsv {G : gG} {i : Nat} (hi : i < 1000) : ga G (2000000 + i) = G.2.2.2.2.1 i := by
  unfold ga
  rw [if_neg (by omega), if_neg (by omega), Nat.add_sub_cancel_left]
def gsL (i : Nat) : Nat := [gtx0.length, gtx1.length].getD i 0
def gsB (i j : Nat) : Int32 := ([gby gtx0, gby gtx1].getD i []).getD j 0
section GST
variable {p : Program} {l : Launch} {e : Env} {R : Room} {s : State} {m : MethodId} {args : Array Value} {below : List Frame} {meth : Method} {c : Code} {G : gG} {M : gM} {sh : gS} {cells slots : Nat} {Z : State → Prop}
variable {pc : Nat} {ls : gLs} {st : List Value} {h : gH}
theorem go_strV {i : Nat} (hi : i < 2) (hM : M.1.cls = RJ0) (hd : decode M.2.1 pc = .ok (.getfield 9, 3)) (k : Go p l e R s m args below meth c G M sh cells slots Z (pc + 3) ls (.ref (2000000 + i) :: st) h) : Go p l e R s m args below meth c G M sh cells slots Z pc ls (.ref (1000000 + i) :: st) h := by
  intro ok H locs la hl hr hS
  have hX := ok.2.2.2.2.2.2.2.1.2
  have hown := ok.2.2.2.2.1
  rw [hM] at hown
  have hk : W p l e R s m args below meth c H locs cells slots Z (F0 m (pc + 3) la (.ref (ga G (2000000 + i)) :: st.map (gv G))) := k ok H locs la hl hr hS
  show W p l e R s m args below meth c H locs cells slots Z (F0 m pc la (.ref (ga G (1000000 + i)) :: st.map (gv G)))
  rw [gsv (by omega)] at hk
  rw [gsk (by omega)]
  exact vk_getf ok.1 ok.2.1 ((hX.2.2.2.2.1.1 i hi).2.2.1) hS hown (ok.2.2.2.2.2.1 _ fjJ0_9) (fun _ h9 => h9) hd hk
theorem go_strC {i : Nat} (hi : i < 2) (hM : M.1.cls = RJ0) (hd : decode M.2.1 pc = .ok (.getfield 15, 3)) (k : Go p l e R s m args below meth c G M sh cells slots Z (pc + 3) ls (.int 0 :: st) h) : Go p l e R s m args below meth c G M sh cells slots Z pc ls (.ref (1000000 + i) :: st) h := by
  intro ok H locs la hl hr hS
  have hX := ok.2.2.2.2.2.2.2.1.2
  have hown := ok.2.2.2.2.1
  rw [hM] at hown
  show W p l e R s m args below meth c H locs cells slots Z (F0 m pc la (.ref (ga G (1000000 + i)) :: st.map (gv G)))
  rw [gsk (by omega)]
  exact vk_getf ok.1 ok.2.1 ((hX.2.2.2.2.1.1 i hi).2.1) hS hown (ok.2.2.2.2.2.1 _ fjJ0_15) (fun _ h9 => h9) hd (k ok H locs la hl hr hS)
theorem go_blen {i : Nat} (hi : i < 2) (hd : decode M.2.1 pc = .ok (.arraylength, 1)) (k : Go p l e R s m args below meth c G M sh cells slots Z (pc + 1) ls (.int (Int32.ofNat (gsL i)) :: st) h) : Go p l e R s m args below meth c G M sh cells slots Z pc ls (.ref (2000000 + i) :: st) h := by
  intro ok H locs la hl hr hS
  have hX := ok.2.2.2.2.2.2.2.1.2
  show W p l e R s m args below meth c H locs cells slots Z (F0 m pc la (.ref (ga G (2000000 + i)) :: st.map (gv G)))
  rw [gsv (by omega)]
  exact va_tlen ok.1 ok.2.1 ((hX.2.2.2.2.1.1 i hi).2.2.2) hS rfl hd (k ok H locs la hl hr hS)
theorem go_bald {i : Nat} {j : Int32} (hi : i < 2) (hin : vp_in j (gsL i)) (hd : decode M.2.1 pc = .ok (.baload, 1)) (k : Go p l e R s m args below meth c G M sh cells slots Z (pc + 1) ls (.int (gsB i j.toNatClampNeg) :: st) h) : Go p l e R s m args below meth c G M sh cells slots Z pc ls (.int j :: .ref (2000000 + i) :: st) h := by
  intro ok H locs la hl hr hS
  have hX := ok.2.2.2.2.2.2.2.1.2
  show W p l e R s m args below meth c H locs cells slots Z (F0 m pc la (.int j :: .ref (ga G (2000000 + i)) :: st.map (gv G)))
  rw [gsv (by omega)]
  exact va_tb ok.1 ok.2.1 ((hX.2.2.2.2.1.1 i hi).2.2.2) hS hin rfl hd (k ok H locs la hl hr hS)
theorem go_getsC (hM : M.1.cls = RJ0) (hd : decode M.2.1 pc = .ok (.getstatic 38, 3)) (k : Go p l e R s m args below meth c G M sh cells slots Z (pc + 3) ls (.int 1 :: st) h) : Go p l e R s m args below meth c G M sh cells slots Z pc ls st h := by
  intro ok H locs la hl hr hS
  have hX := ok.2.2.2.2.2.2.2.1.2
  have hown := ok.2.2.2.2.1
  rw [hM] at hown
  exact va_gets ok.1 ok.2.1 hX.2.2.2.2.2.1 hS hown (ok.2.2.2.2.2.1 _ fjJ0_38) (fun _ h9 => h9) hd (k ok H locs la hl hr hS)
theorem go_ldcS0 (hM : M.1.cls = RX5) (hd : decode M.2.1 pc = .ok (.ldc 31, 2)) (k : Go p l e R s m args below meth c G M sh cells slots Z (pc + 2) ls (.ref 1000000 :: st) h) : Go p l e R s m args below meth c G M sh cells slots Z pc ls st h := by
  intro ok H locs la hl hr hS
  have hX := ok.2.2.2.2.2.2.2.1.2
  have hown := ok.2.2.2.2.1
  rw [hM] at hown
  have hk : W p l e R s m args below meth c H locs cells slots Z (F0 m (pc + 2) la (.ref (ga G (1000000 + 0)) :: st.map (gv G))) := k ok H locs la hl hr hS
  rw [gsk (by omega)] at hk
  exact va_ldcS ok.1 ok.2.1 hown hX.2.2.1 hd hk
theorem go_ldcS1 (hM : M.1.cls = RX7) (hd : decode M.2.1 pc = .ok (.ldc 139, 2)) (k : Go p l e R s m args below meth c G M sh cells slots Z (pc + 2) ls (.ref 1000001 :: st) h) : Go p l e R s m args below meth c G M sh cells slots Z pc ls st h := by
  intro ok H locs la hl hr hS
  have hX := ok.2.2.2.2.2.2.2.1.2
  have hown := ok.2.2.2.2.1
  rw [hM] at hown
  have hk : W p l e R s m args below meth c H locs cells slots Z (F0 m (pc + 2) la (.ref (ga G (1000000 + 1)) :: st.map (gv G))) := k ok H locs la hl hr hS
  rw [gsk (by omega)] at hk
  exact va_ldcS ok.1 ok.2.1 hown hX.2.2.2.1 hd hk
/-- a call of a string's own method -/
theorem go_callT {idx i n d : Nat} (hi : i < 2) (Mc : gM) (As : List Value) {stk : List Value} (hd : decode M.2.1 pc = .ok (.invokevirtual idx, 3)) (hlk : Cond.methodLink M.1.cls idx Mc.1 ∈ gW) (hcd : gCd Mc n) (hvi : gVi Mc) (hcn : Mc.1.cls = "java/lang/String") (hn : As.length = n)
    (hrm : (st.map fun v => v.category).sum ≤ 8) (hfr : d + 1 ≤ R.frames) (hlo : 80 * d + 59 ≤ R.locals) (hce : cells ≤ R.cells ∧ slots ≤ R.slots) (hst : stk = As.reverse ++ .ref (1000000 + i) :: st)
    (hm : gCt l G d Mc sh sh 0 0 (.ref (1000000 + i) :: As) h (fun r h' => Go p l e R s m args below meth c G M sh cells slots Z (pc + 3) ls (r.toList ++ st) h')) : Go p l e R s m args below meth c G M sh cells slots Z pc ls stk h := by
  subst hst
  intro ok H locs la hl hr hS
  have hts := ok.2.2.2.2.2.1
  have hX := ok.2.2.2.2.2.2.2.1.2
  refine gx_back (mc := 0) (ms := 0) ok hl hS (va_runV (As := As.map (gv G)) (rest := st.map (gv G)) (C := Mc.1.cls) (b := ga G (1000000 + i)) (bytes := Mc.2.1) (maxL := Mc.2.2.1) (ret := Mc.2.2.2) (n := n) ⟨ok.1, ok.2.1, ok.2.2.1, ok.2.2.2.2.1, hts⟩ hm ?_ ⟨gPc_blind _ _ _ _, ?_, ?_⟩ rfl ?_ hl.1 ?_ ?_ hd hce) (fun _ _ q => q)
  · refine ⟨⟨rfl, rfl, hfr, ?_, pay_in hts (gW_code hcd), List.mem_cons_self, hts _ hcd.1, hts _ hcd.2.1, ⟨hcd.2.2.1.1, hcd.2.2.1.2.1⟩, fun sig h9 => ?_, hts _ hlk⟩, hts _ hvi.1, hts _ hvi.2⟩
    · have := hcd.2.2.2
      show 8 + (Mc.2.2.1 + 11) + 80 * d ≤ R.locals
      omega
    · have h2 := hcd.2.2.1.2.2
      rw [h9] at h2
      exact (Option.some.inj h2).symm
  · rw [gsk (by omega), hcn]
    exact vk_recv hX.2.2.2.2.1 hi hS
  · exact gx_pre ok hr hS (.ref (1000000 + i) :: As)
  · rw [List.length_map]; exact hn
  · show List.map (gv G) (As.reverse ++ .ref (1000000 + i) :: st) = _
    rw [List.map_append, List.map_reverse]
    rfl
  · show 2 * 0 + _ ≤ 8
    rw [gx_cats]
    omega
theorem go_retT {Q : Option Value → gH → Prop} {she : gS} {mc ms : Nat} {v : Int32} {ty : FieldType} (hd : decode M.2.1 pc = .ok (.ireturn, 1)) (hM : M.2.2.2 = some ty) (hv : narrow ty (.int v) = .int v) (hq : Q (some (.int v)) h) (he : sh = she) (h1 : cells ≤ mc) (h2 : slots ≤ ms) : Go p l e R s m args below meth c G M sh cells slots (gZ below args s G she mc ms Q) pc ls [.int v] h := by
  subst he
  intro ok H locs la hl hr hS
  refine W.widen h1 h2 ?_
  exact W.zret (v := v) (ty := ty) ok.1 ok.2.1 (ok.2.2.2.1.trans hM) hv (fun t ht _ => ⟨⟨_, h, rfl, hq, by rw [ht]; exact hr⟩, hS.F ht⟩) hS.2.2 hd ok.2.2.2.2.2.2.1
end GST
section GSU
variable {l : Launch} {G : gG} {d : Nat} {h : gH} {sh : gS} {Q : Option Value → gH → Prop}
theorem c_coder {i : Nat} (hi : i < 2) (hq : Q (some (.int 0)) h) : gCt l G d MJ0_coder_7d493 sh sh 0 0 [.ref (1000000 + i)] h Q := by
  refine gCt.of rfl rfl (Nat.le_of_ble_eq_true rfl) (fun p e s m args below meth c => ?_)
  show Go p l e _ s m args below meth c G _ sh 0 0 _ 0 [some (.ref (1000000 + i))] [] h
  refine go_getsC rfl dJ0_coder_7d493_0 ?_
  refine go_if_eq 13 dJ0_coder_7d493_3 rfl (fun q => absurd q (by decide)) (fun q => ?_)
  refine go_aload_n (x := 1000000 + i) dJ0_coder_7d493_6 rfl ?_
  refine go_strC hi rfl dJ0_coder_7d493_7 ?_
  refine go_goto 14 dJ0_coder_7d493_10 rfl ?_
  exact go_retT dJ0_coder_7d493_14 rfl rfl hq rfl (Nat.le_refl _) (Nat.le_refl _)
theorem c_isLatin1 {i : Nat} (hi : i < 2) (hq : Q (some (.int 1)) h) : gCt l G d MJ0_isLatin1_aae02 sh sh 0 0 [.ref (1000000 + i)] h Q := by
  refine gCt.of rfl rfl (Nat.le_of_ble_eq_true rfl) (fun p e s m args below meth c => ?_)
  show Go p l e _ s m args below meth c G _ sh 0 0 _ 0 [some (.ref (1000000 + i))] [] h
  refine go_getsC rfl dJ0_isLatin1_aae02_0 ?_
  refine go_if_eq 17 dJ0_isLatin1_aae02_3 rfl (fun q => absurd q (by decide)) (fun q => ?_)
  refine go_aload_n (x := 1000000 + i) dJ0_isLatin1_aae02_6 rfl ?_
  refine go_strC hi rfl dJ0_isLatin1_aae02_7 ?_
  refine go_if_ne 17 dJ0_isLatin1_aae02_10 rfl (fun q => absurd rfl q) (fun q => ?_)
  refine go_iconst (v := 1) dJ0_isLatin1_aae02_13 rfl ?_
  refine go_goto 18 dJ0_isLatin1_aae02_14 rfl ?_
  exact go_zret dJ0_isLatin1_aae02_18 rfl (by decide) hq rfl (Nat.le_refl _) (Nat.le_refl _)
theorem gsL_lt {i : Nat} (hi : i < 2) : gsL i < 1000 := by
  match i, hi with
  | 0, _ => decide +kernel
  | 1, _ => decide +kernel
theorem c_strlen {i : Nat} (hi : i < 2) (hq : Q (some (.int (nI (gsL i)))) h) : gCt l G (d + 1) MJ0_length_8abf5 sh sh 0 0 [.ref (1000000 + i)] h Q := by
  refine gCt.of rfl rfl (Nat.le_of_ble_eq_true rfl) (fun p e s m args below meth c => ?_)
  show Go p l e _ s m args below meth c G _ sh 0 0 _ 0 [some (.ref (1000000 + i))] [] h
  refine go_aload_n (x := 1000000 + i) dJ0_length_8abf5_0 rfl ?_
  refine go_strV hi rfl dJ0_length_8abf5_1 ?_
  refine go_blen hi dJ0_length_8abf5_4 ?_
  refine go_aload_n (x := 1000000 + i) dJ0_length_8abf5_5 rfl ?_
  refine go_callT (d := d) hi MJ0_coder_7d493 [] dJ0_length_8abf5_6 lJ0_335 kJ0_coder_7d493 vJ0_coder_7d493 rfl rfl (Nat.le_of_ble_eq_true rfl) (Nat.le_refl _) (by show 80 * d + 59 ≤ 80 * (d + 1); omega) ⟨Nat.le_refl _, Nat.le_refl _⟩ rfl (c_coder hi ?_)
  refine go_ishr dJ0_length_8abf5_9 ?_
  refine go_iret dJ0_length_8abf5_10 rfl ?_ rfl (Nat.le_refl _) (Nat.le_refl _)
  rw [show Int32.ofNat (gsL i) >>> ((0 : Int32) &&& 31) = nI (gsL i) from sc_shr0 (by have := gsL_lt hi; omega)]
  exact hq
theorem m_check3 {a b : Int32} {f : Value} (hcat : f.category = 1) (h1 : ¬ a < 0) (h2 : a < b) (hq : Q (some (.int a)) h) : Met l yJ3_checkIndex_8e157 (gWm MJ3_checkIndex_8e157) (gRm d 0 0) (fun v U => v = #[.int a, .int b, f] ∧ gRel G sh h U.heap ∧ gK G U) (gQc G sh Q) 0 0 (gA G) := by
  refine Met.ofW (cc := cJ3_checkIndex_8e157) (maxL := 3) (ret := some .int) rfl rfl ?_
  intro p e s m args below meth c s₁ B hml hv
  obtain ⟨rfl, hR, hK⟩ := hv
  have hx := B.exec
  have hb := B.bytes
  have hl := lv_entry ([.int a, .int b, f]) (n := 3) (by cases f <;> first | (simp [lg_sl, Value.category]; done) | (simp [Value.category] at hcat))
  rw [show (#[Value.int a, .int b, f] : Array Value) = ([.int a, .int b, f] : List Value).toArray from rfl, lg_entry_eq]
  generalize (lg_sl ([.int a, .int b, f]) ++ List.replicate (3 - (lg_sl ([.int a, .int b, f])).length) Slot.unset).toArray = ls at hl ⊢
  have hl : lv_has ls 3 [(0, .int a), (1, .int b), (2, f)] := hl
  refine lv_iload_n hx hb dJ3_checkIndex_8e157_0 rfl (lv_at hl 0 rfl) ?_
  refine lv_if_lt (tgt := 9) hx hb dJ3_checkIndex_8e157_1 rfl (fun q => absurd q h1) (fun _ => ?_)
  refine lv_iload_n hx hb dJ3_checkIndex_8e157_4 rfl (lv_at hl 0 rfl) ?_
  refine lv_iload_n hx hb dJ3_checkIndex_8e157_5 rfl (lv_at hl 1 rfl) ?_
  refine lv_icmp_lt (tgt := 16) hx hb dJ3_checkIndex_8e157_6 rfl (fun _ => ?_) (fun q => absurd h2 q)
  refine lv_iload_n hx hb dJ3_checkIndex_8e157_16 rfl (lv_at hl 0 rfl) ?_
  exact W.iret (v := a) hx hb B.returns (fun t ht _ => ⟨⟨some (.int a), h, rfl, hq, by rw [ht]; exact hR⟩, va_S.rf.F ht⟩) (fun q hq9 => by cases hq9) dJ3_checkIndex_8e157_17 B.notSynchronized
end GSU
section GSW
variable {p : Program} {l : Launch} {e : Env} {R : Room} {s : State} {m : MethodId} {args : Array Value} {below : List Frame} {meth : Method} {c : Code} {G : gG} {M : gM} {sh : gS} {cells slots : Nat} {Z : State → Prop}
variable {pc : Nat} {ls : gLs} {st : List Value} {h : gH}
theorem go_fmtC {a b : Int32} {d : Nat} (hM : M.1.cls = RJ0) (hd1 : decode M.2.1 pc = .ok (.getstatic 1053, 3)) (hd2 : decode M.2.1 (pc + 3) = .ok (.invokestatic 1059, 3)) (h1 : ¬ a < 0) (h2 : a < b) (hrm : (st.map fun v => v.category).sum ≤ 8) (hfr : d + 1 ≤ R.frames) (hlo : 80 * d + 59 ≤ R.locals) (hce : cells ≤ R.cells ∧ slots ≤ R.slots)
    (k : Go p l e R s m args below meth c G M sh cells slots Z (pc + 3 + 3) ls (.int a :: st) h) : Go p l e R s m args below meth c G M sh cells slots Z pc ls (.int b :: .int a :: st) h := by
  intro ok H locs la hl hr hS
  have hts := ok.2.2.2.2.2.1
  have hX := ok.2.2.2.2.2.2.2.1.2
  have hown := ok.2.2.2.2.1
  rw [hM] at hown
  refine va_gets ok.1 ok.2.1 hX.2.2.2.2.2.2.1 hS hown (hts _ fjJ0_1053) (fun _ h9 => h9) hd1 ?_
  have hcd := kJ3_checkIndex_8e157
  have hcat := hX.2.2.2.2.2.2.2.2
  refine gx_back (pc := pc + 3) (mc := 0) (ms := 0) (Qg := fun r h' => Go p l e R s m args below meth c G M sh cells slots Z (pc + 3 + 3) ls (r.toList ++ st) h') ok hl hS (va_runS (As := [.int a, .int b, G.2.2.2.2.2]) (rest := st.map (gv G)) (bytes := cJ3_checkIndex_8e157) (maxL := 3) (ret := some .int) (n := 3) (own := M.1.cls) (index := 1059) ⟨ok.1, ok.2.1, ok.2.2.1, ok.2.2.2.2.1, hts⟩ (m_check3 (l := l) (G := G) (d := d) (sh := sh) hcat h1 h2 k) ?_ ⟨?_, ?_⟩ rfl rfl hl.1 rfl ?_ hd2 hce) (fun _ _ q => q)
  · refine ⟨⟨rfl, rfl, hfr, ?_, pay_in hts (gW_code hcd), List.mem_cons_self, hts _ hcd.1, hts _ hcd.2.1, ⟨hcd.2.2.1.1, hcd.2.2.1.2.1⟩, fun sig h9 => ?_, ?_⟩, hts _ sJ3_checkIndex_8e157⟩
    · show 8 + (3 + 11) + 80 * d ≤ R.locals
      omega
    · have h2 := hcd.2.2.1.2.2
      rw [show MJ3_checkIndex_8e157.1 = yJ3_checkIndex_8e157 from rfl, h9] at h2
      exact (Option.some.inj h2).symm
    · rw [hM]
      exact hts _ lJ0_1059
  · exact fun a U g mk q => ⟨q.1, q.2.1, va_K.moved (u := U) (U := U.calling g mk a) (Vm.Alike.refl U.vm) q.2.2.1, gX.moved (u := U) rfl rfl q.2.2.2⟩
  · intro U hU hW
    have h9 := gx_pre ok hr hS [] U hU hW
    exact ⟨rfl, h9.2.1, h9.2.2⟩
  · show 2 * 0 + _ ≤ 8
    rw [gx_cats]
    omega
end GSW
section GSZ
variable {l : Launch} {G : gG} {d : Nat} {h : gH} {sh : gS} {Q : Option Value → gH → Prop}
theorem c_checkIx {a b : Int32} (h1 : ¬ a < 0) (h2 : a < b) (hq : Q none h) : gCt l G (d + 1) MJ0_checkIndex_df160 sh sh 0 0 [.int a, .int b] h Q := by
  refine gCt.of rfl rfl (Nat.le_of_ble_eq_true rfl) (fun p e s m args below meth c => ?_)
  show Go p l e _ s m args below meth c G _ sh 0 0 _ 0 [some (.int a), some (.int b)] [] h
  refine go_iload_n (x := a) dJ0_checkIndex_df160_0 rfl ?_
  refine go_iload_n (x := b) dJ0_checkIndex_df160_1 rfl ?_
  refine go_fmtC (d := d) rfl dJ0_checkIndex_df160_2 dJ0_checkIndex_df160_5 h1 h2 (Nat.le_of_ble_eq_true rfl) (Nat.le_refl _) (by show 80 * d + 59 ≤ 80 * (d + 1); omega) ⟨Nat.le_refl _, Nat.le_refl _⟩ ?_
  refine go_pop dJ0_checkIndex_df160_8 rfl ?_
  exact go_vret dJ0_checkIndex_df160_9 rfl hq rfl (Nat.le_refl _) (Nat.le_refl _)
theorem c_lat1At {i : Nat} {a : Int32} (hi : i < 2) (h1 : vp_in a (gsL i)) (hq : Q (some (.int (((gsB i a.toNatClampNeg &&& 255).toUInt32 % 65536).toInt32))) h) : gCt l G (d + 2) MJ1_charAt_3b067 sh sh 0 0 [.ref (2000000 + i), .int a] h Q := by
  have hL := gsL_lt hi
  have h0 : ¬ a < 0 := fun q => h1 (Or.inl q)
  have hlt : a < Int32.ofNat (gsL i) := by
    obtain ⟨j, hj, rfl⟩ := vp_in_of h1 (by omega)
    exact nI_lt hj (by omega)
  refine gCt.of rfl rfl (Nat.le_of_ble_eq_true rfl) (fun p e s m args below meth c => ?_)
  show Go p l e _ s m args below meth c G _ sh 0 0 _ 0 [some (.ref (2000000 + i)), some (.int a)] [] h
  refine go_iload_n (x := a) dJ1_charAt_3b067_0 rfl ?_
  refine go_aload_n (x := 2000000 + i) dJ1_charAt_3b067_1 rfl ?_
  refine go_blen hi dJ1_charAt_3b067_2 ?_
  refine go_callS (d := d + 1) (mc := 0) (ms := 0) (she := sh) MJ0_checkIndex_df160 [.int a, .int (Int32.ofNat (gsL i))] dJ1_charAt_3b067_3 lJ1_9 kJ0_checkIndex_df160 sJ0_checkIndex_df160 rfl (Nat.le_of_ble_eq_true rfl) (Nat.le_refl _) (by show 80 * (d + 1) + 59 ≤ 80 * (d + 2); omega) ⟨Nat.le_refl _, Nat.le_refl _⟩ rfl (c_checkIx h0 hlt ?_)
  refine go_aload_n (x := 2000000 + i) dJ1_charAt_3b067_6 rfl ?_
  refine go_iload_n (x := a) dJ1_charAt_3b067_7 rfl ?_
  refine go_bald hi h1 dJ1_charAt_3b067_8 ?_
  refine go_sipush (v := 255) dJ1_charAt_3b067_9 rfl ?_
  refine go_iand dJ1_charAt_3b067_12 ?_
  refine go_i2c dJ1_charAt_3b067_13 ?_
  exact go_retT dJ1_charAt_3b067_14 rfl (pk_nc _) hq rfl (Nat.le_refl _) (Nat.le_refl _)
theorem c_charAt {i : Nat} {a : Int32} (hi : i < 2) (h1 : vp_in a (gsL i)) (hq : Q (some (.int (((gsB i a.toNatClampNeg &&& 255).toUInt32 % 65536).toInt32))) h) : gCt l G (d + 3) MJ0_charAt_5068e sh sh 0 0 [.ref (1000000 + i), .int a] h Q := by
  refine gCt.of rfl rfl (Nat.le_of_ble_eq_true rfl) (fun p e s m args below meth c => ?_)
  show Go p l e _ s m args below meth c G _ sh 0 0 _ 0 [some (.ref (1000000 + i)), some (.int a)] [] h
  refine go_aload_n (x := 1000000 + i) dJ0_charAt_5068e_0 rfl ?_
  refine go_callT (d := d + 2) hi MJ0_isLatin1_aae02 [] dJ0_charAt_5068e_1 lJ0_492 kJ0_isLatin1_aae02 vJ0_isLatin1_aae02 rfl rfl (Nat.le_of_ble_eq_true rfl) (Nat.le_refl _) (by show 80 * (d + 2) + 59 ≤ 80 * (d + 3); omega) ⟨Nat.le_refl _, Nat.le_refl _⟩ rfl (c_isLatin1 hi ?_)
  refine go_if_eq 16 dJ0_charAt_5068e_4 rfl (fun q => absurd q (by decide)) (fun q => ?_)
  refine go_aload_n (x := 1000000 + i) dJ0_charAt_5068e_7 rfl ?_
  refine go_strV hi rfl dJ0_charAt_5068e_8 ?_
  refine go_iload_n (x := a) dJ0_charAt_5068e_11 rfl ?_
  refine go_callS (d := d + 2) (mc := 0) (ms := 0) (she := sh) MJ1_charAt_3b067 [.ref (2000000 + i), .int a] dJ0_charAt_5068e_12 lJ0_495 kJ1_charAt_3b067 sJ1_charAt_3b067 rfl (Nat.le_of_ble_eq_true rfl) (Nat.le_refl _) (by show 80 * (d + 2) + 59 ≤ 80 * (d + 3); omega) ⟨Nat.le_refl _, Nat.le_refl _⟩ rfl (c_lat1At hi h1 ?_)
  exact go_retT dJ0_charAt_5068e_15 rfl (pk_nc _) hq rfl (Nat.le_refl _) (Nat.le_refl _)
end GSZ
