section PB
variable {l : Launch} {G : gG} {d : Nat} {Q : Option Value → gH → Prop} {h : gH} {lk sp : Nat} {cd : Option Nat}
theorem w_leL (a b : Int32) : (a.toInt64 ≤ b.toInt64) ↔ a ≤ b := by
  rw [Int64.le_iff_toInt_le, Int32.le_iff_toInt_le, Int32.toInt_toInt64, Int32.toInt_toInt64]
theorem c_isIn {a b c : Int64} (hw : gWf h lk sp cd) (hy : b ≤ a → a ≤ c → Q (some (.int 1)) h) (hn : ¬ (b ≤ a ∧ a ≤ c) → Q (some (.int 0)) h) : gC l G d MX12_isIn [.long a, .long b, .long c] h Q := by
  refine eX12_isIn hw ?_
  rw [lg_cmp_lt, lg_cmp_gt]
  exact ⟨fun q => hn (fun z => absurd q (Int64.not_lt.mpr z.1)), fun q => ⟨fun q2 => hn (fun z => absurd q2 (Int64.not_lt.mpr z.2)), fun q2 => hy (Int64.not_lt.mp q) (Int64.not_lt.mp q2)⟩⟩
/-- isIn of ints -/
theorem c_isInI {v : Int32} (lo hi : Int32) (hw : gWf h lk sp cd) (hy : lo ≤ v → v ≤ hi → Q (some (.int 1)) h) (hn : ¬ (lo ≤ v ∧ v ≤ hi) → Q (some (.int 0)) h) : gC l G d MX12_isIn [.long v.toInt64, .long lo.toInt64, .long hi.toInt64] h Q := by
  refine c_isIn hw (fun h1 h2 => hy ((w_leL _ _).mp h1) ((w_leL _ _).mp h2)) (fun h1 => hn (fun z => h1 ⟨(w_leL _ _).mpr z.1, (w_leL _ _).mpr z.2⟩))
end PB
theorem one_of {av : List Int32} (hl : av.length = 1) : ∃ a, av = [a] := by
  match av, hl with
  | [a], _ => exact ⟨a, rfl⟩
theorem two_of {av : List Int32} (hl : av.length = 2) : ∃ a b, av = [a, b] := by
  match av, hl with
  | [a, b], _ => exact ⟨a, b, rfl⟩
theorem three_of {av : List Int32} (hl : av.length = 3) : ∃ a b c, av = [a, b, c] := by
  match av, hl with
  | [a, b, c], _ => exact ⟨a, b, c, rfl⟩
theorem five_of {av : List Int32} (hl : av.length = 5) : ∃ a b c d e, av = [a, b, c, d, e] := by
  match av, hl with
  | [a, b, c, d, e], _ => exact ⟨a, b, c, d, e, rfl⟩
theorem nil_of {av : List Int32} (hl : av.length = 0) : av = [] := List.length_eq_zero_iff.mp hl
theorem ix_of {a : Int32} (n : Nat) (hn : n < 2 ^ 31) (h1 : ¬ a < 0) (h2 : ¬ nI n ≤ a) : ∃ j : Nat, j < n ∧ a = nI j := by
  rcases pk_ix a hn with h | h | h
  · exact absurd h h1
  · exact absurd h h2
  · exact h
theorem nge {a : Int32} : ¬ a < 0 ↔ 0 ≤ a := Int32.not_lt
/-- nothing but the cells of L has changed, no reference has -/
def gEq (L : List Nat) (h h' : gH) : Prop := (∀ k, k ∉ L → h'.1 k = h.1 k ∧ h'.2.1 k = h.2.1 k) ∧ h'.2.2 = h.2.2
theorem gEq.rf (L : List Nat) (h : gH) : gEq L h h := ⟨fun _ _ => ⟨rfl, rfl⟩, rfl⟩
theorem gEq.tr {L L' : List Nat} {h h' h2 : gH} (a : gEq L h h') (b : gEq L' h' h2) : gEq (L ++ L') h h2 := by
  refine ⟨fun k hk => ?_, b.2.trans a.2⟩
  rw [List.mem_append, not_or] at hk
  obtain ⟨a1, a2⟩ := a.1 k hk.1
  obtain ⟨b1, b2⟩ := b.1 k hk.2
  exact ⟨b1.trans a1, b2.trans a2⟩
theorem gEq.mono {L L' : List Nat} {h h' : gH} (a : gEq L h h') (hs : ∀ k, k ∈ L → k ∈ L') : gEq L' h h' := ⟨fun k hk => a.1 k (fun q => hk (hs k q)), a.2⟩
theorem gEq.sI (h : gH) (k i : Nat) (x : Int32) : gEq [k] h (sI h k i x) := ⟨fun a ha => by
  have := sI_o h k i x a (by simpa using ha)
  exact ⟨this.1, this.2.1⟩, rfl⟩
theorem gEq.sL (h : gH) (k i : Nat) (x : Int64) : gEq [k] h (sL h k i x) := ⟨fun a ha => by
  have := sL_o h k i x a (by simpa using ha)
  exact ⟨this.1, this.2.1⟩, rfl⟩
theorem gWf.eq {L : List Nat} {h h' : gH} {lk sp : Nat} {cd : Option Nat} (hw : gWf h lk sp cd) (e : gEq L h h') : gWf h' lk sp cd := ⟨e.2.trans hw.1, hw.2⟩
def gWE (h : gH) : Prop := ∃ lk sp cd, gWf h lk sp cd
def I_ref (h : gH) : Prop := ∀ i, i < 6 → h.1 66 i = h.1 84 i
def I_flt (h : gH) : Prop := h.1 1 8 = h.1 82 7 ∧ h.1 1 9 = h.1 82 8
def I_pic (h : gH) : Prop := ∃ n, n ≤ 30 ∧ h.1 0 12 = nI n ∧ h.1 82 116 = nI n ∧ ∀ i, i < n → h.1 65 i = h.1 167 i
/-- the tape: as many bytes on both, all of them alike, each a byte -/
def I_tap (h : gH) : Prop := (∃ n, n ≤ 1600 ∧ h.1 1 2 = nI n ∧ h.1 82 1 = nI n) ∧ ∀ i, i < 1600 → h.1 83 i = h.1 2 i ∧ ∃ c, c < 256 ∧ h.1 2 i = nI c
def I_sed (h : gH) : Prop := h.2.1 0 13 = h.2.1 82 82 ∧ ∃ n, n < 2 ^ 31 ∧ h.2.1 0 13 = lN n
section ST1
variable {l : Launch} {G : gG} {Inv : Nat → gH → Prop}
theorem st_status (hI : ∀ n h, Inv n h → gWE h ∧ I_ref h) (hm : ∀ n h, Inv n h → Inv (n + 1) h) : gStepI l G Inv MX11_status MX12_status 1 := by
  intro n9 h av _ hl hi
  obtain ⟨a, rfl⟩ := one_of hl
  obtain ⟨⟨lk, sp, cd, hw⟩, hr⟩ := hI n9 h hi
  replace hi := hm n9 h hi
  refine eX11_status hw ⟨fun q => ⟨_, rfl, ?_⟩, fun q => ⟨fun q2 => ⟨_, rfl, ?_⟩, fun q2 => ?_⟩⟩
  · refine eX12_status (d := 899) hw (c_isInI 0 5 hw (fun h1 _ => absurd q (Int32.not_lt.mpr h1)) (fun _ => ⟨_, rfl, rfl, fun _ => ⟨_, rfl, rfl, hi⟩, fun z => absurd rfl z⟩))
  · refine eX12_status (d := 899) hw (c_isInI 0 5 hw (fun _ h2 => absurd (Int32.le_trans q2 h2) (by decide)) (fun _ => ⟨_, rfl, rfl, fun _ => ⟨_, rfl, rfl, hi⟩, fun z => absurd rfl z⟩))
  · obtain ⟨j, hj, rfl⟩ := ix_of 6 (by decide) q q2
    refine ⟨vp_in_nI hj (by decide), _, rfl, ?_⟩
    refine eX12_status (d := 899) hw (c_isInI 0 5 hw (fun _ _ => ⟨_, rfl, rfl, fun z => absurd z (by decide), fun _ => ⟨vp_in_nI hj (by decide), _, rfl, ?_, hi⟩⟩) (fun z => absurd ⟨nge.mp q, ?_⟩ z))
    · rw [nI_clamp (by omega)]
      exact hr j hj
    · exact nI_le (b := 5) (by omega) (by decide)
theorem st_fault (hI : ∀ n h, Inv n h → gWE h ∧ I_flt h) (hm : ∀ n h, Inv n h → Inv (n + 1) h) : gStepI l G Inv MX11_fault MX12_fault 1 := by
  intro n9 h av _ hl hi
  obtain ⟨a, rfl⟩ := one_of hl
  obtain ⟨⟨lk, sp, cd, hw⟩, h1, h2⟩ := hI n9 h hi
  replace hi := hm n9 h hi
  refine eX11_fault hw ⟨fun q => ⟨_, rfl, ?_⟩, fun q => ⟨_, rfl, ?_⟩, fun q q2 => ⟨_, rfl, ?_⟩⟩
  · exact eX12_fault (d := 900) hw ⟨fun z => absurd q z, fun _ => ⟨_, rfl, h1, hi⟩⟩
  · exact eX12_fault (d := 900) hw ⟨fun _ => ⟨fun z => absurd q z, fun _ => ⟨_, rfl, h2, hi⟩⟩, fun z => absurd (q.symm.trans z) (by decide)⟩
  · exact eX12_fault (d := 900) hw ⟨fun _ => ⟨fun _ => ⟨_, rfl, rfl, hi⟩, fun z => absurd z q2⟩, fun z => absurd z q⟩
theorem st_octet (hI : ∀ n h, Inv n h → gWE h ∧ I_pic h) (hm : ∀ n h, Inv n h → Inv (n + 1) h) : gStepI l G Inv MX11_octet MX12_octet 1 := by
  intro n9 h av _ hl hi
  obtain ⟨a, rfl⟩ := one_of hl
  obtain ⟨⟨lk, sp, cd, hw⟩, n, hn, h1, h2, h3⟩ := hI n9 h hi
  replace hi := hm n9 h hi
  refine eX11_octet hw ⟨fun q => ⟨_, rfl, ?_⟩, fun q => ⟨fun q2 => ⟨_, rfl, ?_⟩, fun q2 => ⟨fun q3 => ?_, fun q3 => ?_⟩⟩⟩
  · exact eX12_octet (d := 900) hw ⟨fun _ => ⟨_, rfl, rfl, hi⟩, fun z => absurd q z⟩
  · exact eX12_octet (d := 900) hw ⟨fun z => absurd z q, fun _ => ⟨fun _ => ⟨_, rfl, rfl, hi⟩, fun z => absurd (by rw [h2, ← h1]; exact q2) z⟩⟩
  · rw [h1] at q2
    exact absurd (Int32.le_trans (nI_le hn (by decide)) q3) q2
  · rw [h1] at q2
    obtain ⟨j, hj, rfl⟩ := ix_of n (by omega) q q2
    refine ⟨vp_in_nI (by omega) (by decide), _, rfl, ?_⟩
    refine eX12_octet (d := 900) hw ⟨fun z => absurd z q, fun _ => ⟨fun z => absurd (by rw [h2] at z; exact z) q2, fun _ => ⟨vp_in_nI (by omega) (by decide), _, rfl, ?_, hi⟩⟩⟩
    rw [nI_clamp (by omega)]
    exact h3 j hj
end ST1
