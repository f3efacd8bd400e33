section CX
variable {l : Launch} {G : gG} {d : Nat} {Q : Option Value → gH → Prop} {h : gH} {lk sp : Nat} {cd : Option Nat} {A F : qT} {T : Nat}
theorem c_inTrustN {v : Nat} (hw : gWf h lk sp cd) (hv : v < 2 ^ 31) (hq : Q (some (.int (nI (min v 99)))) h) : gC l G (d + 1) MX11_inTrust [.int (nI v)] h Q := by
  refine eX11_inTrust hw ?_
  rw [lit 99, i_min hv (by decide), lit 0, i_max (by decide) (by omega), Nat.max_eq_right (Nat.zero_le _)]
  exact hq
theorem c_setTrustN {b v : Nat} (hw : gWf h lk sp cd) (k : KC A F T lk h) (hb : b < qB A) (hv : v < 2 ^ 31) (hq : Q none (sI h 7 (9 + b) (nI (min v 99)))) : gC l G (d + 2) MX2_setTrust [.ref 6, .int (nI b), .int (nI v)] h Q := by
  have h6 := k.g.B6
  refine eX2_setTrust hw (c_isBoat2_y hw k hb ⟨_, rfl, rfl, bN (by decide) (c_inTrustN hw hv ⟨_, rfl, rfl, ?_⟩)⟩)
  rw [show (9 : Int32) + nI b = nI (9 + b) from nI_add 9 b, nI_clamp (by omega)]
  exact ⟨vp_in_nI (by omega) (by decide), hq⟩
theorem FG.trust {b v : Nat} (hv : v ≤ 99) (q : fG A F) : fG A (fupd F 2 b v) := by
  refine ⟨q.1, q.2.1, q.2.2.1, fun b' hb' => ?_, q.2.2.2.2⟩
  obtain ⟨r1, r2, r3, r4, r5⟩ := q.2.2.2.1 b' hb'
  refine ⟨r1, r2, ?_, r4, r5⟩
  show fupd F 2 b v 2 b' ≤ 99
  by_cases z : b' = b
  · subst z; rw [fupd_s]; exact hv
  · rw [fupd_j z]; exact r3
theorem FG.coin {v : Nat} (hv : v ≤ 999999) (q : fG A F) : fG A (fupd F 0 1 v) := ⟨q.1, hv, q.2.2⟩
/-- coins paid, trust grown -/
def fcx (A F : qT) (b c : Nat) : qT := fupd (fupd F 0 1 (min 999999 (fP F + c))) 2 b (min 99 (ft F b + c * qQ A))
theorem fcx_g {b c : Nat} (q : fG A F) : fG A (fcx A F b c) := FG.trust (Nat.min_le_left _ _) (FG.coin (Nat.min_le_left _ _) q)
theorem st_coax : gStepI l G (gInv Rst) MX11_coax MX12_coax 2 := by
  intro n9 h av hn9 hl hi
  obtain ⟨a, b, rfl⟩ := two_of hl
  obtain ⟨lk, sp, cd, A, F, hw, g1, g2, g3, g4, ⟨T, hT, g5⟩, g6, g7, ⟨w, u, w20, u20, u1, u2, u3, u4, ru⟩, g9⟩ := hi.2.2.2.2.2.2
  have k : KC A F T lk h := ⟨g1, g2, g4, g5, g7, by omega⟩
  have m : KM A F h := ⟨g1, g3, g4, g6⟩
  have h6 := g1.B6
  have hQ := g1.Q1
  have hw2 := hw.eq (gEq.sI h 66 3 (h.1 66 3 + 1))
  have mr : gC l G 899 MX12_refuses [.ref 82, .int (nI 3)] (sI h 66 3 (h.1 66 3 + 1)) (rI fun v1 h1 => h1.2.2 = (sI h 66 3 (h.1 66 3 + 1)).2.2 ∧ ∃ v', some (Value.int v1) = some (.int v') ∧ -1 = v' ∧ gInv Rst (n9 + 1) h1) := c_refuses 3 (by decide) hw2 ⟨_, rfl, rfl, _, rfl, rfl, by rw [sI_ne (by decide)]; exact inv_ref Rst_cg 3 hi⟩
  have m3 : KM A F (sI h 66 3 (h.1 66 3 + 1)) := m.eq (gEq.sI h 66 3 _) (by decide) rfl
  rcases ixd a (qB A) (by omega) with ⟨i, hi1, rfl⟩ | ha
  · have bd := (g4.2.2.2.1 i hi1).2.2.1
    have hP := g4.2.1
    rcases Classical.em (∃ c, 1 ≤ c ∧ c ≤ 99 ∧ b = nI c) with ⟨c, c1, c2, rfl⟩ | hn
    · have hcq : c * qQ A ≤ 99 * 99 := Nat.mul_le_mul c2 hQ.2
      refine eX11_coax (d := 899) hw (c_isBoat_y hw g1 g2 hi1 ⟨_, rfl, rfl, bN (by decide) (bN (nI_nlt (b := 1) c1 (by omega)) (bY (nI_le (b := 99) c2 (by decide)) (c_remember hw k w20 u20 u1 u3 (fun h1 a1 => ⟨rfl, a1.1.2, eX2_pay (hw.eq a1.1) ⟨rfl, rfl, ?_⟩⟩))))⟩)
      have e1 : (if (h1.1 7 1 + nI c) < 999999 then (h1.1 7 1 + nI c) else 999999) = nI (min 999999 (fP F + c)) := by
        rw [a1.2.2.2.2.2.2.1, nI_add, lit 999999, i_min (by omega) (by decide), Nat.min_comm]
      rw [e1]
      have a2 : AC [] (qB A) w u (fupd F 0 1 (min 999999 (fP F + c))) T h (sI h1 7 1 (nI (min 999999 (fP F + c)))) := a1.upd (gEq.sI h1 7 1 _) (fun x hx => Or.inl (by simpa using hx)) (fun x hx => by cases hx) (FC.coin (fun j hj => sI_nb hj) (sI_s _ _ _ _) a1.2.2.2.2.2)
      generalize sI h1 7 1 (nI (min 999999 (fP F + c))) = h2 at a2 ⊢
      have hw2 := hw.eq a2.1
      have lc2 : LC A lk h2 := g2.eq hw a2.1 (fun x hx => by simp at hx; omega)
      have k2 : KC A (fupd F 0 1 (min 999999 (fP F + c))) T lk h2 := ⟨g1, lc2, FG.coin (Nat.min_le_left _ _) g4, a2.2.2.2.2.2, by rw [a2.2.2.2.1]; exact g7, by omega⟩
      refine c_trustOf hw2 k2 hi1 ⟨_, rfl, rfl, ?_⟩
      have e2 : nI (ft (fupd F 0 1 (min 999999 (fP F + c))) i) + nI c * h2.1 lk 16 = nI (ft F i + c * qQ A) := by
        rw [lc2.Q, pk_mul, nI_add]
        rfl
      rw [e2, lit 99, i_min (by omega) (by decide)]
      refine c_setTrustN hw2 k2 hi1 (by omega) ⟨rfl, rfl, ?_⟩
      rw [show min (min (ft F i + c * qQ A) 99) 99 = min 99 (ft F i + c * qQ A) by omega]
      have a3 : AC [] (qB A) w u (fcx A F i c) T h (sI h2 7 (9 + i) (nI (min 99 (ft F i + c * qQ A)))) := a2.upd (gEq.sI h2 7 (9 + i) _) (fun x hx => Or.inl (by simpa using hx)) (fun x hx => by cases hx) (FC.trust hi1 h6 (fun j hj => sI_nb hj) (sI_s _ _ _ _) a2.2.2.2.2.2)
      generalize sI h2 7 (9 + i) (nI (min 99 (ft F i + c * qQ A))) = h3 at a3 ⊢
      have hw3 := hw.eq a3.1
      have lc3 : LC A lk h3 := g2.eq hw a3.1 (fun x hx => by simp at hx; omega)
      have k3 : KC A (fcx A F i c) T lk h3 := ⟨g1, lc3, fcx_g g4, a3.2.2.2.2.2, by rw [a3.2.2.2.1]; exact g7, by omega⟩
      refine c_trustOf hw3 k3 hi1 ⟨_, rfl, rfl, _, rfl, ?_⟩
      have lm2 : LM A h3 := g3.cg (fun x hx => a3.1.1 x (fun z => by simp at hx z; omega)) (by rw [(a3.1.1 82 (fun z => by simp at z; omega)).1])
      have e133 : h3.1 133 = h.1 133 := (a3.1.1 133 (fun z => by simp at z; omega)).1
      have e82 : h3.1 82 = h.1 82 := (a3.1.1 82 (fun z => by simp at z; omega)).1
      have m2 : KM A F h3 := ⟨g1, lm2, g4, by rw [e133]; exact g6⟩
      refine eX12_coax (d := 899) hw3 (m_isBoat_y hw3 g1 lm2 hi1 ⟨_, rfl, rfl, bN (by decide) (c_isInI 1 99 hw3 (fun _ _ => ⟨_, rfl, rfl, bN' (by decide) (m_keeps hw3 m2 w20 u20 (by rw [e82]; exact u2) (by rw [e82]; exact u4) (fun h4 b1 b2 b3 => ⟨rfl, b1.1.2, ?_⟩))⟩) (fun z => absurd ⟨nI_le (a := 1) c1 (by omega), nI_le (b := 99) c2 (by decide)⟩ z))⟩)
      have lm4 : LM A h4 := lm2.cg (fun x hx => b1.1.1 x (fun z => by simp at hx z; omega)) (b1.2.2.2.1 58 (by decide))
      have hw4 := hw3.eq b1.1
      have m4 : KM A F h4 := ⟨g1, lm4, g4, b1.2.2.2.2.2.2⟩
      refine m_trustOf hw4 m4 hi1 ⟨_, rfl, rfl, ?_⟩
      have ei : (2 : Int32) + 4 * nI i + 1 = nI (2 + 4 * i + 1) := by rw [lit 2, lit 4, lit 1, pk_mul, nI_add, nI_add]
      have fin : ∀ x y : Int32, x = nI (min 99 (ft F i + c * qQ A)) → y = nI (min 999999 (fP F + c)) → gC l G 899 MX12_trustOf [.ref 82, .int (nI i)] (sI (sI h4 133 (2 + 4 * i + 1) x) 133 1 y) (rI fun v6 h6 => h6.2.2 = (sI (sI h4 133 (2 + 4 * i + 1) x) 133 1 y).2.2 ∧ ∃ v', some (Value.int v6) = some (.int v') ∧ nI (ft (fcx A F i c) i) = v' ∧ gInv Rst (n9 + 1) h6) := by
        rintro _ _ rfl rfl
        have b4 : AM [] (qB A) w u (fupd F 2 i (min 99 (ft F i + c * qQ A))) h3 (sI h4 133 (2 + 4 * i + 1) (nI (min 99 (ft F i + c * qQ A)))) := b1.upd (gEq.sI h4 133 _ _) (fun x hx => Or.inl (by simpa using hx)) (fun x hx => by cases hx) (fun j hj => by rw [sI_ne (by decide)]) (FM.trust hi1 h6 (fun j hj => sI_nb hj) (sI_s _ _ _ _) b1.2.2.2.2.2.2)
        have b5 : AM [] (qB A) w u (fupd (fupd F 2 i (min 99 (ft F i + c * qQ A))) 0 1 (min 999999 (fP F + c))) h3 (sI (sI h4 133 (2 + 4 * i + 1) (nI (min 99 (ft F i + c * qQ A)))) 133 1 (nI (min 999999 (fP F + c)))) := b4.upd (gEq.sI _ 133 _ _) (fun x hx => Or.inl (by simpa using hx)) (fun x hx => by cases hx) (fun j hj => by rw [sI_ne (by decide)]) (FM.coin (fun j hj => sI_nb hj) (sI_s _ _ _ _) b4.2.2.2.2.2.2)
        have ef : fupd (fupd F 2 i (min 99 (ft F i + c * qQ A))) 0 1 (min 999999 (fP F + c)) = fcx A F i c := by
          funext p q
          unfold fcx fupd
          by_cases z1 : p = 0 ∧ q = 1
          · rw [if_pos z1, if_neg (by omega), if_pos z1]
          · rw [if_neg z1, if_neg z1]
        rw [ef] at b5
        have bl : (sI (sI h4 133 (2 + 4 * i + 1) (nI (min 99 (ft F i + c * qQ A)))) 133 1 (nI (min 999999 (fP F + c)))).2.1 82 = h3.2.1 82 := b3
        have be : ∀ j, j ∈ [1, 7, 8, 116] → (sI (sI h4 133 (2 + 4 * i + 1) (nI (min 99 (ft F i + c * qQ A)))) 133 1 (nI (min 999999 (fP F + c)))).1 82 j = h3.1 82 j := fun j hj => by
          rw [sI_ne (by decide), sI_ne (by decide)]
          exact b2 j (fun z => by subst z; revert hj; decide) (fun z => by subst z; revert hj; decide)
        generalize sI (sI h4 133 (2 + 4 * i + 1) (nI (min 99 (ft F i + c * qQ A)))) 133 1 (nI (min 999999 (fP F + c))) = h5 at b5 bl be ⊢
        have lm5 : LM A h5 := lm2.cg (fun x hx => b5.1.1 x (fun z => by simp at hx z; omega)) (b5.2.2.2.1 58 (by decide))
        have m5 : KM A (fcx A F i c) h5 := ⟨g1, lm5, fcx_g g4, b5.2.2.2.2.2.2⟩
        refine m_trustOf (hw3.eq b5.1) m5 hi1 ⟨_, rfl, rfl, _, rfl, rfl, ?_⟩
        exact inv_act hi (Rst.act hw g1 g2 g3 g4 hT g5 g6 g7 w20 u20 ru g9 a3 b5 (fun x hx => by cases hx) (fun x hx => by cases hx) (fcx_g g4) (by omega)) a3 b5 (fun x hx => by cases hx) (fun x hx => by cases hx) be bl
      have e4 : nI (ft F i) + nI c * h4.1 126 1 = nI (ft F i + c * qQ A) := by rw [lm4.Q, pk_mul, nI_add]
      rw [ei, nI_clamp (by omega), e4]
      have vi : vp_in (nI (2 + 4 * i + 1)) 187 := vp_in_nI (by omega) (by decide)
      have ey : ∀ x : Int32, (sI h4 133 (2 + 4 * i + 1) x).1 133 1 + nI c = nI (fP F + c) := fun x => by rw [sI_nb (by omega), m4.y.2.1, nI_add]
      rw [ey, ey]
      have le1 : nI (ft F i + c * qQ A) ≤ 99 ↔ ft F i + c * qQ A ≤ 99 := nI_leI (b := 99) (by omega) (by decide)
      have le2 : nI (fP F + c) ≤ 999999 ↔ fP F + c ≤ 999999 := nI_leI (b := 999999) (by omega) (by decide)
      have p1 : nI (ft F i + c * qQ A) ≤ 99 → nI (ft F i + c * qQ A) = nI (min 99 (ft F i + c * qQ A)) := fun z => by rw [Nat.min_eq_right (le1.mp z)]
      have p2 : ¬ nI (ft F i + c * qQ A) ≤ 99 → 99 = nI (min 99 (ft F i + c * qQ A)) := fun z => by rw [Nat.min_eq_left (by have := mt le1.mpr z; omega)]; exact lit 99
      have p3 : nI (fP F + c) ≤ 999999 → nI (fP F + c) = nI (min 999999 (fP F + c)) := fun z => by rw [Nat.min_eq_right (le2.mp z)]
      have p4 : ¬ nI (fP F + c) ≤ 999999 → 999999 = nI (min 999999 (fP F + c)) := fun z => by rw [Nat.min_eq_left (by have := mt le2.mpr z; omega)]; exact lit 999999
      exact ⟨fun z => ⟨vi, fun z2 => fin _ _ (p1 z) (p3 z2), fun z2 => fin _ _ (p1 z) (p4 z2)⟩, fun z => ⟨vi, fun z2 => fin _ _ (p2 z) (p3 z2), fun z2 => fin _ _ (p2 z) (p4 z2)⟩⟩
    · have mm : gC l G 900 MX12_coax [.ref 82, .int (nI i), .int b] (sI h 66 3 (h.1 66 3 + 1)) (fun r h' => ∃ v', r = some (.int v') ∧ -1 = v' ∧ gInv Rst (n9 + 1) h') := by
        refine eX12_coax (d := 899) hw2 (m_isBoat_y hw2 g1 m3.l hi1 ⟨_, rfl, rfl, bN (by decide) (c_isInI 1 99 hw2 (fun z2 z3 => ?_) (fun _ => ⟨_, rfl, rfl, bY' rfl mr⟩))⟩)
        obtain ⟨j, hj, rfl⟩ := nI_of (x := b) (fun q => absurd z2 (Int32.not_le.mpr (Int32.lt_trans q (by decide))))
        exact absurd ⟨j, (nI_leI (a := 1) (by decide) hj).mp z2, (nI_leI (b := 99) hj (by decide)).mp z3, rfl⟩ hn
      have cr : gC l G 899 MX11_refuse [.ref 0, .int (nI 3)] h (rI fun v1 h1 => h1.2.2 = h.2.2 ∧ ∃ v', some (Value.int v1) = some (.int v') ∧ gC l G 900 MX12_coax [.ref 82, .int (nI i), .int b] h1 (fun r h' => ∃ v'', r = some (.int v'') ∧ v' = v'' ∧ gInv Rst (n9 + 1) h')) := c_refuse 3 (by decide) hw ⟨_, rfl, rfl, _, rfl, mm⟩
      refine eX11_coax (d := 899) hw (c_isBoat_y hw g1 g2 hi1 ⟨_, rfl, rfl, bN (by decide) ⟨fun _ => cr, fun z1 => ⟨fun z2 => ?_, fun _ => cr⟩⟩⟩)
      obtain ⟨j, hj, rfl⟩ := nI_of (x := b) (fun q => z1 (Int32.lt_trans q (by decide)))
      have z1 := mt (nI_ltI (b := 1) hj (by decide)).mpr z1
      exact absurd ⟨j, by omega, (nI_leI (b := 99) hj (by decide)).mp z2, rfl⟩ hn
  · refine eX11_coax (d := 899) hw (c_isBoat_n hw g1 g2 ha ⟨_, rfl, rfl, bY rfl (c_refuse 3 (by decide) hw ⟨_, rfl, rfl, _, rfl, ?_⟩)⟩)
    exact eX12_coax (d := 899) hw2 (m_isBoat_n hw2 g1 m3.l ha ⟨_, rfl, rfl, bY rfl mr⟩)
end CX
