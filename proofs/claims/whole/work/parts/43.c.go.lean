section GO
variable {l : Launch} {G : gG} {d : Nat} {Q : Option Value → gH → Prop} {h : gH} {lk sp : Nat} {cd : Option Nat} {A F : qT} {T : Nat}
theorem AC.wk {Sc : List Nat} {B w u : Nat} {h1 : gH} (a : AC [] B w u F T h h1) : AC Sc B w u F T h h1 := ⟨a.1.mono (fun x hx => by simp at hx ⊢; omega), a.2⟩
theorem AM.wk {Sm : List Nat} {B w u : Nat} {h1 : gH} (a : AM [] B w u F h h1) : AM Sm B w u F h h1 := ⟨a.1.mono (fun x hx => by simp at hx ⊢; omega), a.2⟩
theorem scrA : scr2 [45, 46, 48] := by unfold scr2; decide
theorem scrB : scr2 [131, 132] := by unfold scr2; decide
theorem st_go : gStepI l G (gInv Rst) MX11_go MX12_go 2 := by
  intro n9 h av hn9 hl hi
  obtain ⟨a, b, rfl⟩ := two_of hl
  obtain ⟨lk, sp, cd, A, F, hw, g1, g2, g3, g4, ⟨T, hT, g5⟩, g6, g7, ⟨w, u, w20, u20, u1, u2, u3, u4, ru⟩, g9⟩ := hi.2.2.2.2.2.2
  have k : KC A F T lk h := ⟨g1, g2, g4, g5, g7, by omega⟩
  have m : KM A F h := ⟨g1, g3, g4, g6⟩
  have h6 := g1.B6
  have hw2 := hw.eq (gEq.sI h 66 2 (h.1 66 2 + 1))
  have mr : gC l G 899 MX12_refuses [.ref 82, .int (nI 2)] (sI h 66 2 (h.1 66 2 + 1)) (rI fun v1 h1 => h1.2.2 = (sI h 66 2 (h.1 66 2 + 1)).2.2 ∧ ∃ v', some (Value.int v1) = some (.int v') ∧ -1 = v' ∧ gInv Rst (n9 + 1) h1) := c_refuses 2 (by decide) hw2 ⟨_, rfl, rfl, _, rfl, rfl, by rw [sI_ne (by decide)]; exact inv_ref Rst_cg 2 hi⟩
  have m3 : KM A F (sI h 66 2 (h.1 66 2 + 1)) := m.eq (gEq.sI h 66 2 _) (by decide) rfl
  rcases ixd a (qB A) (by omega) with ⟨i, hi1, rfl⟩ | ha
  · have hci := (g4.2.2.2.1 i hi1).1
    rcases Classical.em (∃ x, bsd A (fc F i) x ∧ b = nI x) with ⟨x, hx, rfl⟩ | hn
    · have hx48 := hx.1.1
      have h48 := g1.N48
      have ne : ∀ {P : Prop}, (∀ y, bsd A (fc F i) y → nI x ≠ nI y) → P := fun q => absurd rfl (q x hx)
      refine eX11_go (d := 899) hw (c_isBoat_y hw g1 g2 hi1 ⟨_, rfl, rfl, bN (by decide) (c_cellOf hw k hi1 ⟨_, rfl, rfl, c_isBeside hw g1 g2 hci (fun y _ _ => ⟨_, rfl, rfl, bN' (by decide) (c_remember hw k w20 u20 u1 u3 (fun h1 a1 => ⟨rfl, a1.1.2, ?_⟩))⟩) ne⟩)⟩)
      have hw1 := hw.eq a1.1
      have k1 : KC A F T lk h1 := ⟨g1, g2.eq hw a1.1 (fun x hx => by simp at hx; omega), g4, a1.2.2.2.2.2, by rw [a1.2.2.2.1]; exact g7, by omega⟩
      refine c_attempt (bo := 0) hw1 k1 (by omega) hi1 hx.1 (by decide) (fun h2 e2 k2 => ⟨_, rfl, e2.2, _, rfl, ?_⟩)
      have a2 : AC [45, 46, 48] (qB A) w u (ftr A F i x 0) (T + 1) h h2 := (a1.wk (Sc := [45, 46, 48])).upd e2 (fun x hx => by simp at hx ⊢; omega) scrA.s k2.x
      have hw3 := hw.eq a2.1
      have lm2 : LM A h2 := g3.cg (fun x hx => a2.1.1 x (fun z => by simp at hx z; omega)) (by rw [(a2.1.1 82 (fun z => by simp at z; omega)).1])
      have e133 : h2.1 133 = h.1 133 := (a2.1.1 133 (fun z => by simp at z; omega)).1
      have e82 : h2.1 82 = h.1 82 := (a2.1.1 82 (fun z => by simp at z; omega)).1
      have m2 : KM A F h2 := ⟨g1, lm2, g4, by rw [e133]; exact g6⟩
      refine eX12_go (d := 899) hw3 (m_isBoat_y hw3 g1 lm2 hi1 ⟨_, rfl, rfl, bN (by decide) (m_cellOf hw3 m2 hi1 ⟨_, rfl, rfl, m_isBeside hw3 g1 lm2 hci (fun y _ _ => ⟨_, rfl, rfl, bN' (by decide) (m_keeps hw3 m2 w20 u20 (by rw [e82]; exact u2) (by rw [e82]; exact u4) (fun h4 b1 b2 b3 => ⟨rfl, b1.1.2, ?_⟩))⟩) ne⟩)⟩)
      have lm4 : LM A h4 := lm2.cg (fun x hx => b1.1.1 x (fun z => by simp at hx z; omega)) (b1.2.2.2.1 58 (by decide))
      have m4 : KM A F h4 := ⟨g1, lm4, g4, b1.2.2.2.2.2.2⟩
      refine m_tries (bo := 0) (hw3.eq b1.1) m4 hi1 hx.1 (by decide) (fun h5 e5 k5 => ⟨_, rfl, e5.1.2, ?_⟩)
      have b5 : AM [131, 132] (qB A) w u (ftr A F i x 0) h2 h5 := (b1.wk (Sm := [131, 132])).upd e5.1 (fun x hx => by simp at hx ⊢; omega) scrB.s (fun j hj => e5.2.1 j (fun z => by subst z; revert hj; decide)) k5.y
      have fin : gInv Rst (n9 + 1) h5 := by
        refine inv_act hi (Rst.act hw g1 g2 g3 g4 hT g5 g6 g7 w20 u20 ru g9 a2 b5 scrA.s scrB.s (ftr_g g1 g4 hi1 hx.1) (by omega)) a2 b5 scrA scrB (fun j hj => ?_) ?_
        · rw [e5.2.1 j (fun z => by subst z; revert hj; decide)]
          exact b2 j (fun z => by subst z; revert hj; decide) (fun z => by subst z; revert hj; decide)
        · rw [e5.2.2]
          exact b3
      by_cases z : fer A F i x 0 ≤ ft F i
      · rw [if_pos z]
        exact bN (by decide) ⟨_, rfl, rfl, fin⟩
      · rw [if_neg z]
        exact bY rfl ⟨_, rfl, rfl, fin⟩
    · have nn : ∀ x, bsd A (fc F i) x → b ≠ nI x := fun x hx e => hn ⟨x, hx, e⟩
      refine eX11_go (d := 899) hw (c_isBoat_y hw g1 g2 hi1 ⟨_, rfl, rfl, bN (by decide) (c_cellOf hw k hi1 ⟨_, rfl, rfl, c_isBeside hw g1 g2 hci (fun y e1 e2 => absurd e1 (nn y e2)) (fun _ => ⟨_, rfl, rfl, bY' rfl (c_refuse 2 (by decide) hw ⟨_, rfl, rfl, _, rfl, ?_⟩)⟩)⟩)⟩)
      exact eX12_go (d := 899) hw2 (m_isBoat_y hw2 g1 m3.l hi1 ⟨_, rfl, rfl, bN (by decide) (m_cellOf hw2 m3 hi1 ⟨_, rfl, rfl, m_isBeside hw2 g1 m3.l hci (fun y e1 e2 => absurd e1 (nn y e2)) (fun _ => ⟨_, rfl, rfl, bY' rfl mr⟩)⟩)⟩)
  · refine eX11_go (d := 899) hw (c_isBoat_n hw g1 g2 ha ⟨_, rfl, rfl, bY rfl (c_refuse 2 (by decide) hw ⟨_, rfl, rfl, _, rfl, ?_⟩)⟩)
    exact eX12_go (d := 899) hw2 (m_isBoat_n hw2 g1 m3.l ha ⟨_, rfl, rfl, bY rfl mr⟩)
end GO
