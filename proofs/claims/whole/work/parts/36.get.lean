theorem Rst.k {n : Nat} {h : gH} (hn : n < 512) (q : Rst n h) : ∃ lk sp cd A F T, gWf h lk sp cd ∧ KC A F T lk h ∧ KM A F h ∧ RU n A h ∧ RT A h := by
  obtain ⟨lk, sp, cd, A, F, hw, g1, g2, g3, g4, ⟨T, hT, g5⟩, g6, g7, g8, g9⟩ := q
  exact ⟨lk, sp, cd, A, F, T, hw, ⟨g1, g2, g4, g5, g7, by omega⟩, ⟨g1, g3, g4, g6⟩, g8, g9⟩
section SG
variable {l : Launch} {G : gG}
theorem st_has : gStepI l G (gInv Rst) MX11_has MX12_has 1 := by
  intro n9 h av hn9 hl hi
  obtain ⟨a, rfl⟩ := one_of hl
  obtain ⟨lk, sp, cd, A, F, T, hw, k, m, ⟨w, u, u1, u2, u3, u4, u5, u6, -⟩, ⟨⟨t, t1, t2, t3, -, -⟩, -⟩⟩ := hi.2.2.2.2.2.2.k hn9
  replace hi := gInv.mono Rst_cg n9 h hi
  have hf := k.f.1
  refine eX11_has (d := 899) hw ⟨fun q => by
    subst q
    exact ⟨_, rfl, eX12_has (d := 899) hw ⟨fun _ => ⟨pk_in 5 10 (by decide), _, rfl, k.l.C.trans m.l.C.symm, hi⟩, fun z => absurd z (by decide), fun z => absurd z (by decide), fun z => absurd z (by decide), fun z => absurd z (by decide), fun z => absurd z (by decide), fun z => absurd z (by decide), fun z => absurd z (by decide), fun z => absurd z (by decide), fun z => absurd z (by decide), fun z => absurd z (by decide), fun z => absurd z (by decide), fun z _ _ _ _ _ _ _ _ _ _ _ => absurd rfl z⟩⟩,
  fun q => by
    subst q
    exact ⟨_, rfl, eX12_has (d := 899) hw ⟨fun z => absurd z (by decide), fun _ => ⟨pk_in 6 10 (by decide), _, rfl, k.l.R.trans m.l.R.symm, hi⟩, fun z => absurd z (by decide), fun z => absurd z (by decide), fun z => absurd z (by decide), fun z => absurd z (by decide), fun z => absurd z (by decide), fun z => absurd z (by decide), fun z => absurd z (by decide), fun z => absurd z (by decide), fun z => absurd z (by decide), fun z => absurd z (by decide), fun _ z _ _ _ _ _ _ _ _ _ _ => absurd rfl z⟩⟩,
  fun q => by
    subst q
    exact ⟨_, rfl, eX12_has (d := 899) hw ⟨fun z => absurd z (by decide), fun z => absurd z (by decide), fun _ => ⟨pk_in 7 10 (by decide), _, rfl, k.l.B.trans m.l.B.symm, hi⟩, fun z => absurd z (by decide), fun z => absurd z (by decide), fun z => absurd z (by decide), fun z => absurd z (by decide), fun z => absurd z (by decide), fun z => absurd z (by decide), fun z => absurd z (by decide), fun z => absurd z (by decide), fun z => absurd z (by decide), fun _ _ z _ _ _ _ _ _ _ _ _ => absurd rfl z⟩⟩,
  fun q => by
    subst q
    exact ⟨_, rfl, eX12_has (d := 899) hw ⟨fun z => absurd z (by decide), fun z => absurd z (by decide), fun z => absurd z (by decide), fun _ => ⟨pk_in 8 10 (by decide), _, rfl, k.l.H.trans m.l.H.symm, hi⟩, fun z => absurd z (by decide), fun z => absurd z (by decide), fun z => absurd z (by decide), fun z => absurd z (by decide), fun z => absurd z (by decide), fun z => absurd z (by decide), fun z => absurd z (by decide), fun z => absurd z (by decide), fun _ _ _ z _ _ _ _ _ _ _ _ => absurd rfl z⟩⟩,
  fun q => by
    subst q
    exact c_hour hw k ⟨_, rfl, rfl, _, rfl, eX12_has (d := 899) hw ⟨fun z => absurd z (by decide), fun z => absurd z (by decide), fun z => absurd z (by decide), fun z => absurd z (by decide), fun _ => ⟨_, rfl, m.y.1.symm, hi⟩, fun z => absurd z (by decide), fun z => absurd z (by decide), fun z => absurd z (by decide), fun z => absurd z (by decide), fun z => absurd z (by decide), fun z => absurd z (by decide), fun z => absurd z (by decide), fun _ _ _ _ z _ _ _ _ _ _ _ => absurd rfl z⟩⟩,
  fun q => by
    subst q
    refine c_hour hw k ⟨_, rfl, rfl, c_skyAt hw k.g k.l hf ⟨_, rfl, rfl, _, rfl, eX12_has (d := 899) hw ⟨fun z => absurd z (by decide), fun z => absurd z (by decide), fun z => absurd z (by decide), fun z => absurd z (by decide), fun z => absurd z (by decide), fun _ => ?_, fun z => absurd z (by decide), fun z => absurd z (by decide), fun z => absurd z (by decide), fun z => absurd z (by decide), fun z => absurd z (by decide), fun z => absurd z (by decide), fun _ _ _ _ _ z _ _ _ _ _ _ => absurd rfl z⟩⟩⟩
    rw [m.y.1]
    exact m_skyIn hw m.g m.l hf ⟨_, rfl, rfl, _, rfl, rfl, hi⟩,
  fun q => by
    subst q
    exact c_coins hw k ⟨_, rfl, rfl, _, rfl, eX12_has (d := 899) hw ⟨fun z => absurd z (by decide), fun z => absurd z (by decide), fun z => absurd z (by decide), fun z => absurd z (by decide), fun z => absurd z (by decide), fun z => absurd z (by decide), fun _ => ⟨_, rfl, m.y.2.1.symm, hi⟩, fun z => absurd z (by decide), fun z => absurd z (by decide), fun z => absurd z (by decide), fun z => absurd z (by decide), fun z => absurd z (by decide), fun _ _ _ _ _ _ z _ _ _ _ _ => absurd rfl z⟩⟩,
  fun q => by
    subst q
    exact c_allBalks hw k ⟨_, rfl, rfl, _, rfl, eX12_has (d := 899) hw ⟨fun z => absurd z (by decide), fun z => absurd z (by decide), fun z => absurd z (by decide), fun z => absurd z (by decide), fun z => absurd z (by decide), fun z => absurd z (by decide), fun z => absurd z (by decide), fun _ => m_sumOf7 hw m ⟨_, rfl, rfl, _, rfl, rfl, hi⟩, fun z => absurd z (by decide), fun z => absurd z (by decide), fun z => absurd z (by decide), fun z => absurd z (by decide), fun _ _ _ _ _ _ _ z _ _ _ _ => absurd rfl z⟩⟩,
  fun q => by
    subst q
    exact c_allTrust hw k ⟨_, rfl, rfl, _, rfl, eX12_has (d := 899) hw ⟨fun z => absurd z (by decide), fun z => absurd z (by decide), fun z => absurd z (by decide), fun z => absurd z (by decide), fun z => absurd z (by decide), fun z => absurd z (by decide), fun z => absurd z (by decide), fun z => absurd z (by decide), fun _ => m_sumOf8 hw m ⟨_, rfl, rfl, _, rfl, rfl, hi⟩, fun z => absurd z (by decide), fun z => absurd z (by decide), fun z => absurd z (by decide), fun _ _ _ _ _ _ _ _ z _ _ _ => absurd rfl z⟩⟩,
  fun q => by
    subst q
    exact c_tellable hw k ⟨_, rfl, rfl, _, rfl, eX12_has (d := 899) hw ⟨fun z => absurd z (by decide), fun z => absurd z (by decide), fun z => absurd z (by decide), fun z => absurd z (by decide), fun z => absurd z (by decide), fun z => absurd z (by decide), fun z => absurd z (by decide), fun z => absurd z (by decide), fun z => absurd z (by decide), fun _ => ⟨_, rfl, m.y.2.2.1.symm, hi⟩, fun z => absurd z (by decide), fun z => absurd z (by decide), fun _ _ _ _ _ _ _ _ _ z _ _ => absurd rfl z⟩⟩,
  fun q => by
    subst q
    exact ⟨_, rfl, eX12_has (d := 899) hw ⟨fun z => absurd z (by decide), fun z => absurd z (by decide), fun z => absurd z (by decide), fun z => absurd z (by decide), fun z => absurd z (by decide), fun z => absurd z (by decide), fun z => absurd z (by decide), fun z => absurd z (by decide), fun z => absurd z (by decide), fun z => absurd z (by decide), fun _ => ⟨_, rfl, t2.trans t3.symm, hi⟩, fun z => absurd z (by decide), fun _ _ _ _ _ _ _ _ _ _ z _ => absurd rfl z⟩⟩,
  fun q => by
    subst q
    exact ⟨_, rfl, eX12_has (d := 899) hw ⟨fun z => absurd z (by decide), fun z => absurd z (by decide), fun z => absurd z (by decide), fun z => absurd z (by decide), fun z => absurd z (by decide), fun z => absurd z (by decide), fun z => absurd z (by decide), fun z => absurd z (by decide), fun z => absurd z (by decide), fun z => absurd z (by decide), fun z => absurd z (by decide), fun _ => ⟨_, rfl, u5.trans u6.symm, hi⟩, fun _ _ _ _ _ _ _ _ _ _ _ z => absurd rfl z⟩⟩,
  fun q0 q1 q2 q3 q4 q5 q6 q7 q8 q9 q10 q11 => ⟨_, rfl, eX12_has (d := 899) hw ⟨fun z => absurd z q0, fun z => absurd z q1, fun z => absurd z q2, fun z => absurd z q3, fun z => absurd z q4, fun z => absurd z q5, fun z => absurd z q6, fun z => absurd z q7, fun z => absurd z q8, fun z => absurd z q9, fun z => absurd z q10, fun z => absurd z q11, fun _ _ _ _ _ _ _ _ _ _ _ _ => ⟨_, rfl, rfl, hi⟩⟩⟩⟩
end SG
theorem c_skillH {l : Launch} {G : gG} {d : Nat} {Q : Option Value → gH → Prop} {h : gH} {lk sp : Nat} {cd : Option Nat} {A : qT} {j : Nat} (hw : gWf h lk sp cd) (g : qG A) (k : LC A lk h) (hj : j < qH A) (hq : Q (some (.int (nI (qsk A j)))) h) : gC l G (d + 1) MX4_skillOf [.ref lk, .int (nI j)] h Q := by
  rw [show nI j = nI (j + 1) - 1 from (i_s1 j).symm]
  refine c_skillOf hw g k (by omega) ?_
  unfold qsx
  rw [if_neg (by omega)]
  exact hq
section SG2
variable {l : Launch} {G : gG}
theorem st_sky : gStepI l G (gInv Rst) MX11_sky MX12_sky 1 := by
  intro n9 h av hn9 hl hi
  obtain ⟨a, rfl⟩ := one_of hl
  obtain ⟨lk, sp, cd, A, F, T, hw, k, m, -, -⟩ := hi.2.2.2.2.2.2.k hn9
  replace hi := gInv.mono Rst_cg n9 h hi
  refine eX11_sky (d := 899) hw ⟨fun q => ⟨_, rfl, ?_⟩, fun q => ⟨fun q2 => ?_, fun q2 => ⟨_, rfl, ?_⟩⟩⟩
  · exact eX12_sky (d := 899) hw (c_isInI 0 999 hw (fun z _ => absurd q (Int32.not_lt.mpr z)) (fun _ => ⟨_, rfl, rfl, bY rfl ⟨_, rfl, rfl, hi⟩⟩))
  · obtain ⟨t, ht, rfl⟩ := nI_of q
    have ht2 : t ≤ 999 := (nI_leI (b := 999) ht (by decide)).mp q2
    refine c_skyAt hw k.g k.l ht2 ⟨_, rfl, rfl, _, rfl, ?_⟩
    exact eX12_sky (d := 899) hw (c_isInI 0 999 hw (fun _ _ => ⟨_, rfl, rfl, bN (by decide) (m_skyIn hw m.g m.l ht2 ⟨_, rfl, rfl, _, rfl, rfl, hi⟩)⟩) (fun z => absurd ⟨Int32.not_lt.mp q, q2⟩ z))
  · exact eX12_sky (d := 899) hw (c_isInI 0 999 hw (fun _ z => absurd z q2) (fun _ => ⟨_, rfl, rfl, bY rfl ⟨_, rfl, rfl, hi⟩⟩))
theorem st_likes : gStepI l G (gInv Rst) MX11_likes MX12_likes 2 := by
  intro n9 h av hn9 hl hi
  obtain ⟨a, b, rfl⟩ := two_of hl
  obtain ⟨lk, sp, cd, A, F, T, hw, k, m, -, -⟩ := hi.2.2.2.2.2.2.k hn9
  replace hi := gInv.mono Rst_cg n9 h hi
  have h6 := k.g.B6
  have h7 := k.g.H6
  rcases ixd a (qB A) (by omega) with ⟨i, hi1, rfl⟩ | ha
  · rcases ixd b (qH A) (by omega) with ⟨j, hj, rfl⟩ | hb
    · refine eX11_likes (d := 899) hw (c_isBoat_y hw k.g k.l hi1 ⟨_, rfl, rfl, bN (by decide) (c_isHand_y hw k.g k.l hj ⟨_, rfl, rfl, bN' (by decide) (c_likingOf hw k.g k.l hi1 hj ⟨_, rfl, rfl, _, rfl, ?_⟩)⟩)⟩)
      exact eX12_likes (d := 899) hw (m_isBoat_y hw m.g m.l hi1 ⟨_, rfl, rfl, bN (by decide) (m_isHand_y hw m.g m.l hj ⟨_, rfl, rfl, bN (by decide) (m_liked hw m.g m.l hi1 hj ⟨_, rfl, rfl, _, rfl, rfl, hi⟩)⟩)⟩)
    · refine eX11_likes (d := 899) hw (c_isBoat_y hw k.g k.l hi1 ⟨_, rfl, rfl, bN (by decide) (c_isHand_n hw k.g k.l hb ⟨_, rfl, rfl, bY' rfl ⟨_, rfl, ?_⟩⟩)⟩)
      exact eX12_likes (d := 899) hw (m_isBoat_y hw m.g m.l hi1 ⟨_, rfl, rfl, bN (by decide) (m_isHand_n hw m.g m.l hb ⟨_, rfl, rfl, bY rfl ⟨_, rfl, rfl, hi⟩⟩)⟩)
  · refine eX11_likes (d := 899) hw (c_isBoat_n hw k.g k.l ha ⟨_, rfl, rfl, bY rfl ⟨_, rfl, ?_⟩⟩)
    exact eX12_likes (d := 899) hw (m_isBoat_n hw m.g m.l ha ⟨_, rfl, rfl, bY rfl ⟨_, rfl, rfl, hi⟩⟩)
theorem st_hand : gStepI l G (gInv Rst) MX11_hand MX12_hand 2 := by
  intro n9 h av hn9 hl hi
  obtain ⟨a, b, rfl⟩ := two_of hl
  obtain ⟨lk, sp, cd, A, F, T, hw, k, m, -, -⟩ := hi.2.2.2.2.2.2.k hn9
  replace hi := gInv.mono Rst_cg n9 h hi
  have h7 := k.g.H6
  rcases ixd a (qH A) (by omega) with ⟨j, hj, rfl⟩ | ha
  · refine eX11_hand (d := 899) hw (c_isHand_y hw k.g k.l hj ⟨_, rfl, rfl, bN' (by decide) ⟨fun q => ?_, fun q => ?_, fun q q2 => ⟨_, rfl, ?_⟩⟩⟩)
    · subst q
      refine c_skillH hw k.g k.l hj ⟨_, rfl, rfl, _, rfl, ?_⟩
      refine eX12_hand (d := 899) hw (m_isHand_y hw m.g m.l hj ⟨_, rfl, rfl, bN' (by decide) (bY' rfl ?_)⟩)
      rw [show (6 : Int32) + nI j = nI (6 + j) from nI_add 6 j, nI_clamp (by omega), m.l.sk j hj]
      exact ⟨vp_in_nI (by omega) (by decide), _, rfl, rfl, hi⟩
    · subst q
      refine c_boatOf hw k ⟨_, rfl, rfl, _, rfl, ?_⟩
      exact eX12_hand (d := 899) hw (m_isHand_y hw m.g m.l hj ⟨_, rfl, rfl, bN' (by decide) (bN' (by decide) (bY' rfl (m_boatWith hw m ⟨_, rfl, rfl, _, rfl, rfl, hi⟩)))⟩)
    · exact eX12_hand (d := 899) hw (m_isHand_y hw m.g m.l hj ⟨_, rfl, rfl, bN' (by decide) (bN' q (bN' q2 ⟨_, rfl, rfl, hi⟩))⟩)
  · refine eX11_hand (d := 899) hw (c_isHand_n hw k.g k.l ha ⟨_, rfl, rfl, bY' rfl ⟨_, rfl, ?_⟩⟩)
    exact eX12_hand (d := 899) hw (m_isHand_n hw m.g m.l ha ⟨_, rfl, rfl, bY' rfl ⟨_, rfl, rfl, hi⟩⟩)
theorem st_boat : gStepI l G (gInv Rst) MX11_boat MX12_boat 2 := by
  intro n9 h av hn9 hl hi
  obtain ⟨a, b, rfl⟩ := two_of hl
  obtain ⟨lk, sp, cd, A, F, T, hw, k, m, -, -⟩ := hi.2.2.2.2.2.2.k hn9
  replace hi := gInv.mono Rst_cg n9 h hi
  have h6 := k.g.B6
  rcases ixd a (qB A) (by omega) with ⟨j, hj, rfl⟩ | ha
  · obtain ⟨y1, y2, y3, y4⟩ := m.y.bt j hj
    have mm : ∀ (i : Nat) (v : Int32), i < 4 → h.1 133 (2 + 4 * j + i) = v → gC l G 900 MX12_boat [.ref 82, .int (nI j), .int (nI i)] h (fun r h' => ∃ v', r = some (.int v') ∧ v = v' ∧ gInv Rst (n9 + 1) h') := by
      intro i v hi4 hv
      refine eX12_boat (d := 899) hw (m_isBoat_y hw m.g m.l hj ⟨_, rfl, rfl, bN' (by decide) (m_isIn_y (n := 4) hw hi4 (by decide) ⟨_, rfl, rfl, bN (by decide) ?_⟩)⟩)
      rw [show (2 : Int32) + 4 * nI j + nI i = nI (2 + 4 * j + i) by rw [lit 2, lit 4, pk_mul, nI_add, nI_add], nI_clamp (by omega), hv]
      exact ⟨vp_in_nI (by omega) (by decide), _, rfl, rfl, hi⟩
    refine eX11_boat (d := 899) hw (c_isBoat_y hw k.g k.l hj ⟨_, rfl, rfl, bN' (by decide) ⟨fun q => ?_, fun q => ?_, fun q => ?_, fun q => ?_, fun q => ?_, fun q0 q1 q2 q3 q4 => ⟨_, rfl, ?_⟩⟩⟩)
    · subst q
      exact c_cellOf hw k hj ⟨_, rfl, rfl, _, rfl, mm 0 _ (by decide) y1⟩
    · subst q
      exact c_trustOf hw k hj ⟨_, rfl, rfl, _, rfl, mm 1 _ (by decide) y2⟩
    · subst q
      exact c_balksOf hw k hj ⟨_, rfl, rfl, _, rfl, mm 2 _ (by decide) y3⟩
    · subst q
      exact c_handOf hw k hj ⟨_, rfl, rfl, _, rfl, mm 3 _ (by decide) y4⟩
    · subst q
      rw [nI_clamp (by omega), k.l.ft j hj]
      refine ⟨vp_in_nI (by omega) (by decide), _, rfl, ?_⟩
      refine eX12_boat (d := 899) hw (m_isBoat_y hw m.g m.l hj ⟨_, rfl, rfl, bN' (by decide) (m_isIn_n (n := 4) hw (by decide) (by decide) ⟨_, rfl, rfl, bY rfl (bY' rfl ?_)⟩)⟩)
      rw [show (12 : Int32) + 2 * nI j = nI (12 + 2 * j) by rw [lit 12, lit 2, pk_mul, nI_add], nI_clamp (by omega), m.l.ft j hj]
      exact ⟨vp_in_nI (by omega) (by decide), _, rfl, rfl, hi⟩
    · refine eX12_boat (d := 899) hw (m_isBoat_y hw m.g m.l hj ⟨_, rfl, rfl, bN' (by decide) (m_isIn_n (n := 4) hw (fun i hi4 => ?_) (by decide) ⟨_, rfl, rfl, bY rfl (bN' q4 ⟨_, rfl, rfl, hi⟩)⟩)⟩)
      match i, hi4 with
      | 0, _ => exact q0
      | 1, _ => exact q1
      | 2, _ => exact q2
      | 3, _ => exact q3
  · refine eX11_boat (d := 899) hw (c_isBoat_n hw k.g k.l ha ⟨_, rfl, rfl, bY' rfl ⟨_, rfl, ?_⟩⟩)
    exact eX12_boat (d := 899) hw (m_isBoat_n hw m.g m.l ha ⟨_, rfl, rfl, bY' rfl ⟨_, rfl, rfl, hi⟩⟩)
theorem st_cell : gStepI l G (gInv Rst) MX11_cell MX12_cell 2 := by
  intro n9 h av hn9 hl hi
  obtain ⟨a, b, rfl⟩ := two_of hl
  obtain ⟨lk, sp, cd, A, F, T, hw, k, m, -, -⟩ := hi.2.2.2.2.2.2.k hn9
  replace hi := gInv.mono Rst_cg n9 h hi
  have h48 := k.g.N48
  rcases ixd a (qN A) (by omega) with ⟨j, hj, rfl⟩ | ha
  · refine eX11_cell (d := 899) hw (c_isCell_y hw k.g k.l hj ⟨_, rfl, rfl, bN' (by decide) ⟨fun q => ?_, fun q => ?_, fun q => ?_, fun q => ?_, fun q0 q1 q2 q3 => ⟨_, rfl, ?_⟩⟩⟩)
    · subst q
      refine c_isLand hw k.g k.l hj (fun z => ⟨_, rfl, rfl, bN (by decide) ⟨_, rfl, ?_⟩⟩) (fun z => ⟨_, rfl, rfl, bY rfl (c_depthOf hw k.g k.l hj ⟨_, rfl, rfl, _, rfl, ?_⟩)⟩)
      · exact eX12_cell (d := 899) hw (m_isCell_y hw m.g m.l hj ⟨_, rfl, rfl, bN' (by decide) ⟨fun _ => m_isLand hw m.g m.l hj (fun _ => ⟨_, rfl, rfl, bN (by decide) ⟨_, rfl, rfl, hi⟩⟩) (fun z2 => absurd z z2), fun z => absurd z (by decide), fun z => absurd z (by decide), fun z => absurd z (by decide), fun z => absurd rfl z⟩⟩)
      · exact eX12_cell (d := 899) hw (m_isCell_y hw m.g m.l hj ⟨_, rfl, rfl, bN' (by decide) ⟨fun _ => m_isLand hw m.g m.l hj (fun z2 => absurd z2 z) (fun _ => ⟨_, rfl, rfl, bY rfl (m_depthOf hw m.g m.l ⟨hj, z⟩ ⟨_, rfl, rfl, _, rfl, rfl, hi⟩)⟩), fun z => absurd z (by decide), fun z => absurd z (by decide), fun z => absurd z (by decide), fun z => absurd rfl z⟩⟩)
    · subst q
      refine c_wreckIn hw k.g k.l hj ⟨_, rfl, rfl, _, rfl, ?_⟩
      refine eX12_cell (d := 899) hw (m_isCell_y hw m.g m.l hj ⟨_, rfl, rfl, bN' (by decide) ⟨fun z => absurd z (by decide), fun _ => m_isWreck hw m.g m.l hj (fun z => ⟨_, rfl, rfl, bN (by decide) ⟨_, rfl, ?_, hi⟩⟩) (fun z => ⟨_, rfl, rfl, bY rfl ⟨_, rfl, ?_, hi⟩⟩), fun z => absurd z (by decide), fun z => absurd z (by decide), fun _ z => absurd rfl z⟩⟩)
      · unfold qwr
        rw [if_pos z]
        rfl
      · unfold qwr
        rw [if_neg z]
        rfl
    · subst q
      refine c_homeOf hw k.g k.l hj ⟨_, rfl, rfl, _, rfl, ?_⟩
      exact eX12_cell (d := 899) hw (m_isCell_y hw m.g m.l hj ⟨_, rfl, rfl, bN' (by decide) ⟨fun z => absurd z (by decide), fun z => absurd z (by decide), fun _ => m_homeOf hw m.g m.l hj ⟨_, rfl, rfl, _, rfl, rfl, hi⟩, fun z => absurd z (by decide), fun _ _ z => absurd rfl z⟩⟩)
    · subst q
      refine c_bitsIn hw k ⟨_, rfl, rfl, _, rfl, ?_⟩
      exact eX12_cell (d := 899) hw (m_isCell_y hw m.g m.l hj ⟨_, rfl, rfl, bN' (by decide) ⟨fun z => absurd z (by decide), fun z => absurd z (by decide), fun z => absurd z (by decide), fun _ => m_boatsIn hw m ⟨_, rfl, rfl, _, rfl, rfl, hi⟩, fun _ _ _ z => absurd rfl z⟩⟩)
    · exact eX12_cell (d := 899) hw (m_isCell_y hw m.g m.l hj ⟨_, rfl, rfl, bN' (by decide) ⟨fun z => absurd z q0, fun z => absurd z q1, fun z => absurd z q2, fun z => absurd z q3, fun _ _ _ _ => ⟨_, rfl, rfl, hi⟩⟩⟩)
  · refine eX11_cell (d := 899) hw (c_isCell_n hw k.g k.l ha ⟨_, rfl, rfl, bY' rfl ⟨_, rfl, ?_⟩⟩)
    exact eX12_cell (d := 899) hw (m_isCell_n hw m.g m.l ha ⟨_, rfl, rfl, bY' rfl ⟨_, rfl, rfl, hi⟩⟩)
end SG2
