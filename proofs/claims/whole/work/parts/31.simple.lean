/-- the cells, and the places of the model's object, that the rest of the relation speaks of -/
def gRc : List Nat := [6, 7, 8, 9, 10, 11, 12, 13, 14, 15, 16, 17, 18, 19, 20, 21, 22, 23, 24, 25, 26, 27, 28, 30, 31, 32, 33, 34, 35, 36, 37, 38, 39, 40, 41, 42, 43, 44, 59, 60, 67, 68, 69, 70, 71, 72, 73, 74, 75, 76, 77, 78, 79, 80, 81, 119, 120, 121, 122, 123, 124, 125, 126, 127, 128, 129, 133, 141, 142, 3, 85, 86, 87, 88, 89, 90, 91, 92, 93, 94, 95, 96, 97, 98, 99, 100, 101, 102, 103, 104, 105, 106, 107, 108, 109, 110, 111, 112, 113, 114, 115, 116, 117, 118, 143, 144, 145, 146, 147, 148, 149, 150, 151, 152, 153, 154, 155, 156, 157, 158, 159, 160, 161, 162, 163]
def gRs : List Nat := [58, 76, 77, 80, 81]
def gCg (Rst : Nat → gH → Prop) : Prop := ∀ (n : Nat) (h h' : gH), h'.2.2 = h.2.2 → (∀ k, k ∈ gRc → h'.1 k = h.1 k ∧ h'.2.1 k = h.2.1 k) → (∀ j, j ∈ gRs → h'.1 82 j = h.1 82 j) → h'.1 58 3 = h.1 58 3 → h'.1 58 4 = h.1 58 4 → Rst n h → Rst (n + 1) h'
def gInv (Rst : Nat → gH → Prop) (n : Nat) (h : gH) : Prop := gWE h ∧ I_ref h ∧ I_flt h ∧ I_pic h ∧ I_tap h ∧ I_sed h ∧ Rst n h
theorem gInv.mono {Rst : Nat → gH → Prop} (hc : gCg Rst) (n : Nat) (h : gH) (hi : gInv Rst n h) : gInv Rst (n + 1) h := ⟨hi.1, hi.2.1, hi.2.2.1, hi.2.2.2.1, hi.2.2.2.2.1, hi.2.2.2.2.2.1, hc n h h rfl (fun _ _ => ⟨rfl, rfl⟩) (fun _ _ => rfl) rfl rfl hi.2.2.2.2.2.2⟩
theorem gWE.eq {h h' : gH} (hw : gWE h) (e : h'.2.2 = h.2.2) : gWE h' := by
  obtain ⟨lk, sp, cd, h1, h2⟩ := hw
  exact ⟨lk, sp, cd, e.trans h1, h2⟩
theorem sI_ne {h : gH} {k i a b : Nat} {x : Int32} (hk : a ≠ k) : (sI h k i x).1 a b = h.1 a b := by
  show (if a = k then _ else _) = _
  rw [if_neg hk]
theorem sI_nb {h : gH} {k i b : Nat} {x : Int32} (hb : b ≠ i) : (sI h k i x).1 k b = h.1 k b := (sI_b h k i x b hb).1
theorem sI_na {h : gH} {k i a : Nat} {x : Int32} (hk : a ≠ k) : (sI h k i x).1 a = h.1 a := (sI_o h k i x a hk).1
theorem sL_ne {h : gH} {k i a b : Nat} {x : Int64} (hk : a ≠ k) : (sL h k i x).2.1 a b = h.2.1 a b := by
  show (if a = k then _ else _) = _
  rw [if_neg hk]
theorem sL_na {h : gH} {k i a : Nat} {x : Int64} (hk : a ≠ k) : (sL h k i x).2.1 a = h.2.1 a := (sL_o h k i x a hk).2.1
section SI
variable {l : Launch} {G : gG} {d : Nat} {Q : Option Value → gH → Prop} {h : gH} {lk sp : Nat} {cd : Option Nat}
theorem c_refuse (j : Nat) (hj : j < 6) (hw : gWf h lk sp cd) (hq : Q (some (.int (-1))) (sI h 66 j (h.1 66 j + 1))) : gC l G d MX11_refuse [.ref 0, .int (nI j)] h Q := by
  refine eX11_refuse hw ⟨fun q => absurd q (nI_pos (by omega)), fun _ => ⟨fun q => absurd q (nI_ge hj (by decide)), fun _ => ⟨vp_in_nI hj (by decide), vp_in_nI hj (by decide), ?_⟩⟩⟩
  rw [nI_clamp (by omega)]
  exact hq
theorem c_refuses (j : Nat) (hj : j < 6) (hw : gWf h lk sp cd) (hq : Q (some (.int (-1))) (sI h 84 j (h.1 84 j + 1))) : gC l G d MX12_refuses [.ref 82, .int (nI j)] h Q := by
  refine eX12_refuses hw ⟨vp_in_nI hj (by decide), vp_in_nI hj (by decide), ?_⟩
  rw [nI_clamp (by omega)]
  exact hq
end SI
section SJ
variable {Rst : Nat → gH → Prop} {h : gH}
/-- both refuse -/
theorem inv_ref (hc : gCg Rst) (j : Nat) {n : Nat} (hi : gInv Rst n h) : gInv Rst (n + 1) (sI (sI h 66 j (h.1 66 j + 1)) 84 j (h.1 84 j + 1)) := by
  obtain ⟨h1, h2, h3, h4, h5, h6, h7⟩ := hi
  refine ⟨h1.eq rfl, fun i hi => ?_, h3, h4, h5, h6, hc _ h _ rfl (fun k hk => ?_) (fun j' hj' => ?_) rfl rfl h7⟩
  · rw [sI_ne (by decide)]
    by_cases e : i = j
    · subst e
      rw [sI_s, sI_s, h2 i hi]
    · rw [sI_nb e, sI_nb e, sI_ne (by decide)]
      exact h2 i hi
  · have e1 : k ≠ 66 := fun e => by subst e; revert hk; decide
    have e2 : k ≠ 84 := fun e => by subst e; revert hk; decide
    exact ⟨by rw [sI_na e2, sI_na e1], rfl⟩
  · rw [sI_ne (by decide), sI_ne (by decide)]
end SJ
section ST2
variable {l : Launch} {G : gG} {Rst : Nat → gH → Prop}
theorem st_seed (hc : gCg Rst) : gStepI l G (gInv Rst) MX11_seed MX12_seed 1 := by
  intro n9 h av _ hl hi
  obtain ⟨a, rfl⟩ := one_of hl
  obtain ⟨⟨lk, sp, cd, hw⟩, -⟩ := id hi
  refine eX11_seed (d := 899) hw ⟨fun q => ⟨_, rfl, ?_⟩, fun q => c_refuse 5 (by decide) hw ⟨_, rfl, rfl, _, rfl, ?_⟩⟩
  · refine eX12_seed (d := 900) (hw.eq (gEq.sL h 0 13 _)) ⟨fun _ => ⟨_, rfl, rfl, ?_⟩, fun z => absurd q z⟩
    obtain ⟨h1, h2, h3, h4, h5, h6, h7⟩ := hi
    obtain ⟨n, hn, rfl⟩ := nI_of (Int32.not_lt.mpr q)
    refine ⟨h1.eq rfl, h2, h3, h4, h5, ⟨?_, n, hn, ?_⟩, hc _ h _ rfl (fun k hk => ⟨rfl, ?_⟩) (fun j' hj' => rfl) rfl rfl h7⟩
    · rw [sL_s, sL_ne (by decide), sL_s]
    · rw [sL_ne (by decide), sL_s]
      exact nI_l hn
    · have e1 : k ≠ 0 := fun e => by subst e; revert hk; decide
      have e2 : k ≠ 82 := fun e => by subst e; revert hk; decide
      rw [sL_na e2, sL_na e1]
  · refine eX12_seed (d := 900) (hw.eq (gEq.sI h 66 5 _)) ⟨fun z => absurd z q, fun _ => ⟨_, rfl, rfl, ?_⟩⟩
    rw [sI_ne (by decide)]
    exact inv_ref hc 5 hi
theorem inv_tap {h : gH} (hc : gCg Rst) (n : Nat) (hn : n ≤ 1600) {n9 : Nat} (hi : gInv Rst n9 h) : gInv Rst (n9 + 1) (sI (sI h 1 2 (nI n)) 82 1 (nI n)) := by
  obtain ⟨h1, h2, h3, h4, h5, h6, h7⟩ := hi
  refine ⟨h1.eq rfl, fun i hi => ?_, ?_, ?_, ⟨⟨n, hn, ?_, ?_⟩, fun i hi => ?_⟩, h6, hc _ h _ rfl (fun k hk => ⟨?_, rfl⟩) (fun j' hj' => ?_) rfl rfl h7⟩
  · rw [sI_ne (by decide), sI_ne (by decide), sI_ne (by decide), sI_ne (by decide)]
    exact h2 i hi
  · exact h3
  · exact h4
  · rfl
  · rfl
  · rw [sI_ne (by decide), sI_ne (by decide), sI_ne (by decide), sI_ne (by decide)]
    exact h5.2 i hi
  · have e1 : k ≠ 1 := fun e => by subst e; revert hk; decide
    have e2 : k ≠ 82 := fun e => by subst e; revert hk; decide
    rw [sI_na e2, sI_na e1]
  · have e1 : j' ≠ 1 := fun e => by subst e; revert hj'; decide
    rw [sI_nb e1, sI_ne (by decide)]
theorem st_end (hc : gCg Rst) : gStepI l G (gInv Rst) MX11_end MX12_end 1 := by
  intro n9 h av _ hl hi
  obtain ⟨a, rfl⟩ := one_of hl
  obtain ⟨⟨lk, sp, cd, hw⟩, -, -, -, ⟨⟨n, hn, hn1, hn2⟩, -⟩, -⟩ := id hi
  refine eX11_end (d := 899) hw ⟨fun q => c_refuse 0 (by decide) hw ⟨_, rfl, rfl, _, rfl, ?_⟩, fun q => ⟨fun q2 => ⟨_, rfl, ?_⟩, fun q2 => c_refuse 0 (by decide) hw ⟨_, rfl, rfl, _, rfl, ?_⟩⟩⟩
  · refine eX12_end (d := 900) (hw.eq (gEq.sI h 66 0 _)) ⟨fun _ => ⟨_, rfl, rfl, ?_⟩, fun z => absurd q z⟩
    rw [sI_ne (by decide)]
    exact inv_ref hc 0 hi
  · refine eX12_end (d := 900) (hw.eq (gEq.sI h 1 2 _)) ⟨fun z => absurd z q, fun _ => ⟨fun _ => ⟨_, rfl, rfl, ?_⟩, fun z => absurd (by rw [sI_ne (by decide), hn2, ← hn1]; exact q2) z⟩⟩
    obtain ⟨j, hj, rfl⟩ := nI_of q
    rw [hn1, nI_leI hj (by omega)] at q2
    exact inv_tap hc j (by omega) hi
  · refine eX12_end (d := 900) (hw.eq (gEq.sI h 66 0 _)) ⟨fun z => absurd z q, fun _ => ⟨fun z => absurd (by rw [sI_ne (by decide), hn2, ← hn1] at z; exact z) q2, fun _ => ⟨_, rfl, rfl, ?_⟩⟩⟩
    rw [sI_ne (by decide)]
    exact inv_ref hc 0 hi
end ST2
