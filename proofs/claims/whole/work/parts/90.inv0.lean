/-- no references but where they must stand -/
def sP (h : gH) : Prop := ∀ a j, (gRt.getD a []).length ≤ j → h.2.2 a j = none
theorem sP0 : sP hZero := fun _ _ _ => rfl
theorem sPI {h : gH} {k i : Nat} {x : Int32} (q : sP h) : sP (sI h k i x) := q
theorem sPL {h : gH} {k i : Nat} {x : Int64} (q : sP h) : sP (sL h k i x) := q
theorem sPA {h : gH} {k : Nat} {f : Nat → Int32} (q : sP h) : sP (sA h k f) := q
theorem sPN {h : gH} {k : Nat} (q : sP h) : sP (sN h k) := fun a j hj => by
  show (if a = k then fun _ => none else h.2.2 a) j = none
  by_cases e : a = k
  · rw [if_pos e]
  · rw [if_neg e]; exact q a j hj
theorem sPR {h : gH} {k i : Nat} {x : Option Nat} (hi : i < (gRt.getD k []).length) (q : sP h) : sP (sR h k i x) := fun a j hj => by
  show (if a = k then (if j = i then x else h.2.2 a j) else h.2.2 a j) = none
  by_cases e : a = k
  · subst e
    rw [if_pos rfl, if_neg (by omega)]; exact q a j hj
  · rw [if_neg e]; exact q a j hj
theorem sPRn {h : gH} {k i : Nat} (q : sP h) : sP (sR h k i none) := fun a j hj => by
  show (if a = k then (if j = i then none else h.2.2 a j) else h.2.2 a j) = none
  by_cases e : a = k
  · by_cases e2 : j = i
    · rw [if_pos e, if_pos e2]
    · rw [if_pos e, if_neg e2]; exact q a j hj
  · rw [if_neg e]; exact q a j hj
theorem sPM {h : gH} (q : sP h) : sP (sM h 8 20) := fun a j hj => by
  show (if a = 8 then fun i => (if i < 20 then some (8 + 1 + i) else none) else if 8 ≤ a ∧ a ≤ 8 + 20 then fun _ => none else h.2.2 a) j = none
  by_cases e : a = 8
  · subst e
    have : (gRt.getD 8 []).length = 20 := by decide
    rw [if_pos rfl]
    show (if j < 20 then some (8 + 1 + j) else none) = none
    rw [if_neg (by omega)]
  · rw [if_neg e]
    by_cases e2 : 8 ≤ a ∧ a ≤ 8 + 20
    · rw [if_pos e2]
    · rw [if_neg e2]; exact q a j hj
set_option maxRecDepth 20000 in
set_option maxHeartbeats 4000000 in
theorem sPs : sP hStart := by
  unfold hStart eX12_init_82
  repeat first
    | exact sP0
    | (refine sPI ?_)
    | (refine sPL ?_)
    | (refine sPA ?_)
    | (refine sPN ?_)
    | (refine sPRn ?_)
    | (refine sPR (by decide) ?_)
    | (refine sPM ?_)
    | (unfold eX11_init_0)
    | (unfold eX4_init_67)
    | (unfold eX0_init_78)
    | (unfold eX0_init_61)
    | (unfold eX8_init_58)
    | (unfold eX1_init_53)
    | (unfold eX10_init_49)
    | (unfold eX9_init_29)
    | (unfold eX6_init_45)
    | (unfold eX4_init_30)
    | (unfold eX0_init_41)
    | (unfold eX2_init_6)
    | (unfold eX7_init_5)
    | (unfold eX3_init_4)
    | (unfold eX5_init_1)
    | (unfold eRd)
theorem sRs : ∀ a, a < 168 → ∀ j, j < (gRt.getD a []).length → hStart.2.2 a j = gRF 30 67 none a j := by decide +kernel
theorem gRt_len : gRt.length = 168 := by decide +kernel
theorem hStart_r : hStart.2.2 = gRF 30 67 none := by
  funext a j
  by_cases hj : j < (gRt.getD a []).length
  · refine sRs a ?_ j hj
    by_cases ha : a < 168
    · exact ha
    · rw [show gRt.getD a [] = [] by rw [List.getD_eq_getElem?_getD, List.getElem?_eq_none (by rw [gRt_len]; omega)]; rfl] at hj
      exact absurd hj (Nat.not_lt_zero _)
  · rw [sPs a j (by omega)]
    have e0 : (gRt.getD a []).getD j none = none := by rw [List.getD_eq_getElem?_getD, List.getElem?_eq_none (by omega)]; rfl
    have l29 : (gRt.getD 29 []).length = 3 := by decide
    have l0 : (gRt.getD 0 []).length = 12 := by decide
    unfold gRF
    by_cases h29 : a = 29
    · subst h29
      rw [if_pos rfl, if_neg (by omega), e0]
    · rw [if_neg h29]
      by_cases h0 : a = 0
      · subst h0
        rw [if_pos rfl, if_neg (by omega), e0]
      · rw [if_neg h0, e0]
        by_cases h4 : a = 4
        · rw [if_pos h4]
          split <;> rfl
        · rw [if_neg h4]
theorem hStart_w : gWf hStart 30 67 none := ⟨hStart_r, Or.inl rfl, Or.inr rfl, by decide⟩
def qA0 : qT := fun i j => if i = 0 ∧ j = 5 then 5 else 0
def qF0 : qT := fun _ _ => 0
theorem hs_eq : (hStart.1 66 0 = 0 ∧ hStart.1 66 1 = 0 ∧ hStart.1 66 2 = 0 ∧ hStart.1 66 3 = 0 ∧ hStart.1 66 4 = 0 ∧ hStart.1 66 5 = 0) ∧ (∀ i, i < 6 → hStart.1 66 i = hStart.1 84 i) ∧ (hStart.1 1 8 = hStart.1 82 7 ∧ hStart.1 1 9 = hStart.1 82 8) ∧ (hStart.1 0 12 = nI 0 ∧ hStart.1 82 116 = nI 0) ∧ (hStart.1 1 2 = nI 0 ∧ hStart.1 82 1 = nI 0) ∧ (hStart.2.1 0 13 = hStart.2.1 82 82 ∧ hStart.2.1 0 13 = lN 1) := by decide +kernel
set_option maxRecDepth 20000 in
theorem hs_83 : ∀ i, hStart.1 83 i = 0 := fun i => rfl
set_option maxRecDepth 20000 in
theorem hs_2 : ∀ i, hStart.1 2 i = 0 := fun i => rfl
theorem hs_tp : ∀ i, i < 1600 → hStart.1 83 i = hStart.1 2 i ∧ hStart.1 2 i = nI 0 := fun i _ => ⟨(hs_83 i).trans (hs_2 i).symm, (hs_2 i).trans nI_0.symm⟩
theorem hs_lc : (hStart.1 30 11 = nI 0 ∧ hStart.1 30 12 = nI 0 ∧ hStart.1 30 13 = nI 0 ∧ hStart.1 30 14 = nI 0 ∧ hStart.1 30 15 = nI 0 ∧ hStart.1 30 16 = nI 5) ∧ (∀ p, p < 3 → hStart.1 43 p = nI 0 ∧ hStart.1 44 p = nI 0) := by decide +kernel
theorem hs_lm : (hStart.1 119 5 = nI 0 ∧ hStart.1 119 6 = nI 0 ∧ hStart.1 119 7 = nI 0 ∧ hStart.1 119 8 = nI 0 ∧ hStart.1 119 9 = nI 0 ∧ hStart.1 126 1 = nI 5) ∧ (∀ p, p < 3 → hStart.1 127 (3 + p) = -1) ∧ hStart.1 82 58 = 0 := by decide +kernel
theorem hs_f : (hStart.1 7 0 = nI 0 ∧ hStart.1 7 1 = nI 0 ∧ hStart.1 7 2 = nI 0) ∧ (hStart.1 133 0 = nI 0 ∧ hStart.1 133 1 = nI 0 ∧ hStart.1 133 26 = nI 0) ∧ hStart.1 6 3 = nI 0 ∧ (hStart.1 6 2 = nI 0 ∧ hStart.1 82 81 = nI 0 ∧ hStart.1 6 4 = nI 0 ∧ hStart.1 82 80 = nI 0) ∧ hStart.1 58 4 = nI 0 ∧ hStart.1 82 76 = nI 0 := by decide +kernel
theorem hs_w : RW hStart := ⟨by decide +kernel, by decide +kernel, by decide +kernel⟩
theorem Inv0 : gInv Rst 0 hStart := by
  obtain ⟨-, a2, a3, a4, a5, a6⟩ := hs_eq
  obtain ⟨⟨b1, b2, b3, b4, b5, b6⟩, b7⟩ := hs_lc
  obtain ⟨⟨c1, c2, c3, c4, c5, c6⟩, c7, c8⟩ := hs_lm
  obtain ⟨⟨d1, d2, d3⟩, ⟨d4, d5, d6⟩, d7, ⟨d8, d9, d10, d11⟩, d12, d13⟩ := hs_f
  have hs_tp := hs_tp
  have hStart_w := hStart_w
  have hs_w := hs_w
  generalize hStart = h at *
  refine ⟨⟨30, 67, none, hStart_w⟩, a2, a3, ⟨0, by omega, a4.1, a4.2, fun i hi => absurd hi (Nat.not_lt_zero _)⟩, ⟨⟨0, by omega, a5.1, a5.2⟩, fun i hi => ⟨(hs_tp i hi).1, 0, by omega, (hs_tp i hi).2⟩⟩, ⟨a6.1, 1, by omega, a6.2⟩, 30, 67, none, qA0, qF0, hStart_w, ?_⟩
  have hz0 : ∀ p, qsl qA0 p = 0 := fun p => by unfold qsl qA0; rw [if_neg (fun q => absurd q.1 (by decide))]
  have z : ∀ {P : Prop} (i : Nat), i < 0 → P := fun i hi => absurd hi (Nat.not_lt_zero _)
  refine ⟨⟨Or.inl ⟨rfl, rfl⟩, by decide, by decide, by decide, by decide, by decide, fun c hc => z c hc, fun c hc => z c hc, fun c hc => z c hc, fun c k hc => z c hc, fun c hc => z c hc, fun c hc => z c hc, fun c hc => z c hc, fun p hp => ⟨by rw [hz0 p]; exact Nat.zero_le _, ⟨fun c hc => z c (by rw [hz0 p] at hc; exact hc), fun h => z 0 (by rw [hz0 p] at h; exact h)⟩, fun _ c hc => z c (by rw [hz0 p] at hc; exact hc)⟩⟩,
    ⟨b1, b2, b3, b4, b5, b6, fun c hc => z c hc, fun c hc => z c hc, fun c hc => z c hc, fun c hc => z c hc, fun c hc => z c hc, fun c hc => z c hc, fun c k hc => z c hc, fun c hc => z c hc, fun c hc => z c hc, fun p hp => ⟨0, by rw [hz0 p]; decide, (b7 p hp).1, by rw [hz0 p]; exact (b7 p hp).2, fun i hi => z i (by rw [hz0 p] at hi; exact hi)⟩⟩,
    ⟨c1, c2, c3, c4, c5, c6, fun c hc => z c hc, fun c hc => z c hc, fun c hc => z c hc, fun c hc => z c hc, fun c hc => z c hc, fun c k hc => z c hc, fun c hc => z c hc, fun c hc => z c hc, fun p hp => ?_, c8⟩,
    ⟨by decide, by decide, by decide, fun c hc => z c hc, fun c hc => z c hc⟩, ⟨0, by omega, d1, d2, d3, rfl, fun c hc => z c hc, fun c hc => z c hc⟩, ⟨d4, d5, d6, fun c hc => z c hc, fun c hc => z c hc⟩, d7, ⟨0, 0, by omega, by omega, d8, d9, d10, d11, fun c hc => z c hc⟩, ⟨⟨0, by omega, d12, d13, fun h => z 0 h, fun c hc => z c hc⟩, hs_w⟩⟩
  rw [if_pos (hz0 p)]
  exact c7 p hp
