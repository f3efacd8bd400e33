section MN
variable {l : Launch} {G : gG} {d : Nat} {Q : Option Value → gH → Prop} {h : gH} {lk sp : Nat} {cd : Option Nat} {A F : qT} {T : Nat}
theorem fwh_c (F : qT) (v : Int32) : ∀ r k, fwh F v r k = -1 ∨ ∃ o, k ≤ o ∧ o < k + r ∧ fwh F v r k = nI o
  | 0, _ => Or.inl rfl
  | r + 1, k => by
    unfold fwh
    split
    · exact Or.inr ⟨k, by omega, by omega, rfl⟩
    · rcases fwh_c F v r (k + 1) with z | ⟨o, o1, o2, z⟩
      · exact Or.inl z
      · exact Or.inr ⟨o, by omega, by omega, z⟩
theorem FG.crew {b v : Nat} (hv : v ≤ qH A) (q : fG A F) : fG A (fupd F 4 b v) := by
  refine ⟨q.1, q.2.1, q.2.2.1, fun b' hb' => ?_, q.2.2.2.2⟩
  obtain ⟨r1, r2, r3, r4, r5⟩ := q.2.2.2.1 b' hb'
  refine ⟨r1, r2, r3, r4, ?_⟩
  show fupd F 4 b v 4 b' ≤ qH A
  by_cases z : b' = b
  · subst z; rw [fupd_s]; exact hv
  · rw [fupd_j z]; exact r5
/-- a boat gets a hand (told by it and 1) -/
def fmn (A F : qT) (b x : Nat) : qT := if x = 0 ∨ fwh F (nI x - 1) (qB A) 0 = -1 then fupd F 4 b x else fupd (fupd F 4 (fwh F (nI x - 1) (qB A) 0).toNatClampNeg 0) 4 b x
theorem fmn_g {b x : Nat} (hx : x ≤ qH A) (q : fG A F) : fG A (fmn A F b x) := by
  unfold fmn
  split
  · exact FG.crew hx q
  · exact FG.crew hx (FG.crew (Nat.zero_le _) q)
theorem c_crew {b x : Nat} (hw : gWf h lk sp cd) (k : KC A F T lk h) (hb : b < qB A) (hx : x ≤ qH A) (hq : ∀ h', gEq [7] h h' → FC (qB A) (fmn A F b x) T (h'.1 7) → Q none h') : gC l G (d + 3) MX2_crew [.ref 6, .int (nI b), .int (nI x - 1)] h Q := by
  have h6 := k.g.B6
  have hH := k.g.H6
  have eb : (21 : Int32) + nI b = nI (21 + b) := nI_add 21 b
  have vb : vp_in (nI (21 + b)) 67 := vp_in_nI (by omega) (by decide)
  have cb : (nI (21 + b)).toNatClampNeg = 21 + b := nI_clamp (by omega)
  have s1 : ∀ h', gEq [7] h h' → FC (qB A) (fmn A F b x) T ((sI h' 7 (21 + b) (nI x - 1)).1 7) → Q none (sI h' 7 (21 + b) (nI x - 1)) := fun h' e q => hq _ ((e.tr (gEq.sI h' 7 (21 + b) _)).mono (fun y hy => by simpa using hy)) q
  refine eX2_crew hw ⟨fun z => ?_, fun z => ?_⟩
  · have hx0 : x ≠ 0 := fun e => z (by rw [e]; rfl)
    refine c_boatOf hw k ⟨_, rfl, rfl, ?_⟩
    rcases fwh_c F (nI x - 1) (qB A) 0 with e | ⟨o, o1, o2, e⟩
    · rw [e]
      refine c_isBoat2_n hw k (fun j hj q => i_nm1 (by omega) q.symm) ⟨_, rfl, rfl, bY rfl (c_isBoat2_y hw k hb ⟨_, rfl, rfl, bN (by decide) ?_⟩)⟩
      rw [eb, cb]
      refine ⟨vb, s1 h (gEq.rf _ _) ?_⟩
      unfold fmn
      rw [if_pos (Or.inr e)]
      exact FC.crew hb h6 (fun j hj => sI_nb hj) (sI_s _ _ _ _) k.x
    · rw [e]
      have eo : (21 : Int32) + nI o = nI (21 + o) := nI_add 21 o
      refine c_isBoat2_y hw k (by omega) ⟨_, rfl, rfl, bN (by decide) ⟨by rw [eo]; exact vp_in_nI (by omega) (by decide), ?_⟩⟩
      rw [eo, nI_clamp (by omega)]
      have f1 : FC (qB A) (fupd F 4 o 0) T ((sI h 7 (21 + o) (-1)).1 7) := FC.crew (by omega) h6 (fun j hj => sI_nb hj) (sI_s _ _ _ _) k.x
      have e7 : gEq [7] h (sI h 7 (21 + o) (-1)) := gEq.sI _ _ _ _
      have k1 : KC A (fupd F 4 o 0) T lk (sI h 7 (21 + o) (-1)) := ⟨k.g, k.l.eq hw e7 (fun x hx => by simp at hx; omega), FG.crew (Nat.zero_le _) k.f, f1, by rw [sI_ne (by decide)]; exact k.b, k.t⟩
      refine c_isBoat2_y (hw.eq e7) k1 hb ⟨_, rfl, rfl, bN (by decide) ?_⟩
      rw [eb, cb]
      refine ⟨vb, s1 _ e7 ?_⟩
      unfold fmn
      rw [if_neg (fun q => q.elim hx0 (fun q => i_nm1 (a := o) (by omega) (by rw [← e]; exact q))), e, nI_clamp (by omega)]
      exact FC.crew hb h6 (fun j hj => sI_nb hj) (sI_s _ _ _ _) f1
  · have hx0 : x = 0 := (i_eq1 (b := 0) (by omega) (by decide)).mp (by rw [z]; exact i_m1.symm)
    refine c_isBoat2_n hw k (fun j hj q => i_nm1 (by omega) q.symm) ⟨_, rfl, rfl, bY rfl (c_isBoat2_y hw k hb ⟨_, rfl, rfl, bN (by decide) ?_⟩)⟩
    rw [eb, cb]
    refine ⟨vb, s1 h (gEq.rf _ _) ?_⟩
    unfold fmn
    rw [if_pos (Or.inl hx0)]
    exact FC.crew hb h6 (fun j hj => sI_nb hj) (sI_s _ _ _ _) k.x
theorem c_isHandX {x : Nat} (hw : gWf h lk sp cd) (g : qG A) (k : LC A lk h) (h1 : 1 ≤ x) (hx : x ≤ qH A) (hq : Q (some (.int 1)) h) : gC l G d MX4_isHand [.ref lk, .int (nI x - 1)] h Q := by
  obtain ⟨y, rfl⟩ : ∃ y, x = y + 1 := ⟨x - 1, by omega⟩
  rw [i_s1]
  exact c_isHand_y hw g k (by omega) hq
theorem m_isHandX {x : Nat} (hw : gWf h lk sp cd) (g : qG A) (k : LM A h) (h1 : 1 ≤ x) (hx : x ≤ qH A) (hq : Q (some (.int 1)) h) : gC l G (d + 1) MX12_isHand [.ref 82, .int (nI x - 1)] h Q := by
  obtain ⟨y, rfl⟩ : ∃ y, x = y + 1 := ⟨x - 1, by omega⟩
  rw [i_s1]
  exact m_isHand_y hw g k (by omega) hq
theorem st_man : gStepI l G (gInv Rst) MX11_man MX12_man 2 := by
  intro n9 h av hn9 hl hi
  obtain ⟨a, b, rfl⟩ := two_of hl
  obtain ⟨lk, sp, cd, A, F, hw, g1, g2, g3, g4, ⟨T, hT, g5⟩, g6, g7, ⟨w, u, w20, u20, u1, u2, u3, u4, ru⟩, g9⟩ := hi.2.2.2.2.2.2
  have k : KC A F T lk h := ⟨g1, g2, g4, g5, g7, by omega⟩
  have m : KM A F h := ⟨g1, g3, g4, g6⟩
  have h6 := g1.B6
  have hH := g1.H6
  have hw2 := hw.eq (gEq.sI h 66 3 (h.1 66 3 + 1))
  have mr : ∃ v', some (Value.int 0) = some (.int v') ∧ 0 = v' ∧ gInv Rst (n9 + 1) (sI (sI h 66 3 (h.1 66 3 + 1)) 84 3 ((sI h 66 3 (h.1 66 3 + 1)).1 84 3 + 1)) := ⟨_, rfl, rfl, by rw [sI_ne (by decide)]; exact inv_ref Rst_cg 3 hi⟩
  have m3 : KM A F (sI h 66 3 (h.1 66 3 + 1)) := m.eq (gEq.sI h 66 3 _) (by decide) rfl
  have cr : gC l G 900 MX12_man [.ref 82, .int a, .int b] (sI h 66 3 (h.1 66 3 + 1)) (fun r h' => ∃ v'', r = some (.int v'') ∧ 0 = v'' ∧ gInv Rst (n9 + 1) h') → gC l G 899 MX11_refuse [.ref 0, .int (nI 3)] h (rI fun v1 h1 => h1.2.2 = h.2.2 ∧ ∃ v', some (Value.int 0) = some (.int v') ∧ gC l G 900 MX12_man [.ref 82, .int a, .int b] h1 (fun r h' => ∃ v'', r = some (.int v'') ∧ v' = v'' ∧ gInv Rst (n9 + 1) h')) := fun mm => c_refuse 3 (by decide) hw ⟨_, rfl, rfl, _, rfl, mm⟩
  rcases ixd a (qB A) (by omega) with ⟨i, hi1, rfl⟩ | ha
  · have bd := (g4.2.2.2.1 i hi1).2.2.2.2
    rcases Classical.em (∃ x, x ≤ qH A ∧ b = nI x - 1) with ⟨x, hx, rfl⟩ | hn
    · have xz : ¬ nI x - 1 = -1 → 1 ≤ x := fun z => Nat.pos_of_ne_zero (fun e => z (by rw [e]; rfl))
      have ex : nI (fh F i) - 1 = nI x - 1 ↔ fh F i = x := i_eq1 (by omega) (by omega)
      by_cases e9 : fh F i = x
      · refine eX11_man (d := 899) hw (c_isBoat_y hw g1 g2 hi1 ⟨_, rfl, rfl, bN (by decide) ?_⟩)
        refine have H := ?_; ⟨fun _ => H, fun z => c_isHandX hw g1 g2 (xz z) hx ⟨_, rfl, rfl, bN (by decide) H⟩⟩
        refine c_handOf hw k hi1 ⟨_, rfl, rfl, bY' (ex.mpr e9) (cr ?_)⟩
        refine eX12_man (d := 899) hw2 (m_isBoat_y hw2 g1 m3.l hi1 ⟨_, rfl, rfl, bN (by decide) ?_⟩)
        refine have H := ?_; ⟨fun _ => H, fun z => m_isHandX hw2 g1 m3.l (xz z) hx ⟨_, rfl, rfl, bN (by decide) H⟩⟩
        exact m_handOf hw2 m3 hi1 ⟨_, rfl, rfl, bY' (ex.mpr e9) mr⟩
      · refine eX11_man (d := 899) hw (c_isBoat_y hw g1 g2 hi1 ⟨_, rfl, rfl, bN (by decide) ?_⟩)
        refine have H := ?_; ⟨fun _ => H, fun z => c_isHandX hw g1 g2 (xz z) hx ⟨_, rfl, rfl, bN (by decide) H⟩⟩
        refine c_handOf hw k hi1 ⟨_, rfl, rfl, bN' (mt ex.mp e9) (c_remember hw k w20 u20 u1 u3 (fun h1 a1 => ⟨rfl, a1.1.2, ?_⟩))⟩
        have k1 : KC A F T lk h1 := ⟨g1, g2.eq hw a1.1 (fun x hx => by simp at hx; omega), g4, a1.2.2.2.2.2, by rw [a1.2.2.2.1]; exact g7, by omega⟩
        refine c_crew (hw.eq a1.1) k1 hi1 hx (fun h2 c1 c2 => ⟨rfl, c1.2, _, rfl, ?_⟩)
        have a2 : AC [] (qB A) w u (fmn A F i x) T h h2 := a1.upd c1 (fun x hx => Or.inl (by simpa using hx)) (fun x hx => by cases hx) c2
        have hw3 := hw.eq a2.1
        have lm2 : LM A h2 := g3.cg (fun x hx => a2.1.1 x (fun z => by simp at hx z; omega)) (by rw [(a2.1.1 82 (fun z => by simp at z; omega)).1])
        have e133 : h2.1 133 = h.1 133 := (a2.1.1 133 (fun z => by simp at z; omega)).1
        have e82 : h2.1 82 = h.1 82 := (a2.1.1 82 (fun z => by simp at z; omega)).1
        have m2 : KM A F h2 := ⟨g1, lm2, g4, by rw [e133]; exact g6⟩
        refine eX12_man (d := 899) hw3 (m_isBoat_y hw3 g1 lm2 hi1 ⟨_, rfl, rfl, bN (by decide) ?_⟩)
        refine have H := ?_; ⟨fun _ => H, fun z => m_isHandX hw3 g1 lm2 (xz z) hx ⟨_, rfl, rfl, bN (by decide) H⟩⟩
        refine m_handOf hw3 m2 hi1 ⟨_, rfl, rfl, bN' (mt ex.mp e9) (m_keeps hw3 m2 w20 u20 (by rw [e82]; exact u2) (by rw [e82]; exact u4) (fun h4 b1 b2 b3 => ⟨rfl, b1.1.2, ?_⟩))⟩
        have lm4 : LM A h4 := lm2.cg (fun x hx => b1.1.1 x (fun z => by simp at hx z; omega)) (b1.2.2.2.1 58 (by decide))
        have hw4 := hw3.eq b1.1
        have m4 : KM A F h4 := ⟨g1, lm4, g4, b1.2.2.2.2.2.2⟩
        have fin : ∀ h5, gEq [133] h4 h5 → FM (qB A) (fmn A F i x) (h5.1 133) → ∃ v', some (Value.int 1) = some (.int v') ∧ 1 = v' ∧ gInv Rst (n9 + 1) h5 := fun h5 f1 f2 => by
          have b4 : AM [] (qB A) w u (fmn A F i x) h2 h5 := b1.upd f1 (fun x hx => Or.inl (by simpa using hx)) (fun x hx => by cases hx) (fun j hj => by rw [(f1.1 82 (by decide)).1]) f2
          refine ⟨_, rfl, rfl, inv_act hi (Rst.act hw g1 g2 g3 g4 hT g5 g6 g7 w20 u20 ru g9 a2 b4 (fun x hx => by cases hx) (fun x hx => by cases hx) (fmn_g hx g4) (by omega)) a2 b4 (fun x hx => by cases hx) (fun x hx => by cases hx) (fun j hj => ?_) ?_⟩
          · rw [(f1.1 82 (by decide)).1]
            exact b2 j (fun z => by subst z; revert hj; decide) (fun z => by subst z; revert hj; decide)
          · rw [(f1.1 82 (by decide)).2]
            exact b3
        have ei : ∀ i, (2 : Int32) + 4 * nI i + 3 = nI (2 + 4 * i + 3) := fun i => by rw [lit 2, lit 4, lit 3, pk_mul, nI_add, nI_add]
        have vi : ∀ i, i < 6 → vp_in (nI (2 + 4 * i + 3)) 187 := fun i hi => vp_in_nI (by omega) (by decide)
        have ci : ∀ i, i < 6 → (nI (2 + 4 * i + 3)).toNatClampNeg = 2 + 4 * i + 3 := fun i hi => nI_clamp (by omega)
        rw [ei, ci i (by omega)]
        refine ⟨fun z => ?_, fun z => ⟨vi i (by omega), fin _ (gEq.sI _ _ _ _) ?_⟩⟩
        · have hx0 : x ≠ 0 := fun e => z (by rw [e]; rfl)
          refine m_boatWith hw4 m4 ⟨_, rfl, rfl, ?_⟩
          rcases fwh_c F (nI x - 1) (qB A) 0 with e | ⟨o, o1, o2, e⟩
          · rw [e]
            refine bY rfl ⟨vi i (by omega), fin _ (gEq.sI _ _ _ _) ?_⟩
            unfold fmn
            rw [if_pos (Or.inr e)]
            exact FM.crew hi1 h6 (fun j hj => sI_nb hj) (sI_s _ _ _ _) m4.y
          · rw [e, ei, ci o (by omega)]
            refine bN (i_nm1 (by omega)) ⟨vi o (by omega), vi i (by omega), fin _ (((gEq.sI h4 133 _ _).tr (gEq.sI _ 133 _ _)).mono (fun x hx => by simpa using hx)) ?_⟩
            unfold fmn
            rw [if_neg (fun q => q.elim hx0 (fun q => i_nm1 (a := o) (by omega) (by rw [← e]; exact q))), e, nI_clamp (by omega)]
            exact FM.crew hi1 h6 (fun j hj => sI_nb hj) (sI_s _ _ _ _) (FM.crew (v := 0) (by omega) h6 (fun j hj => sI_nb hj) (sI_s _ _ _ _) m4.y)
        · have hx0 : x = 0 := (i_eq1 (b := 0) (by omega) (by decide)).mp (by rw [z]; exact i_m1.symm)
          unfold fmn
          rw [if_pos (Or.inl hx0)]
          exact FM.crew hi1 h6 (fun j hj => sI_nb hj) (sI_s _ _ _ _) m4.y
    · have hb1 : ¬ b = -1 := fun e => hn ⟨0, Nat.zero_le _, by rw [e]; exact i_m1.symm⟩
      have hb2 : ∀ j, j < qH A → b ≠ nI j := fun j hj e => hn ⟨j + 1, by omega, by rw [e, i_s1]⟩
      refine eX11_man (d := 899) hw (c_isBoat_y hw g1 g2 hi1 ⟨_, rfl, rfl, bN (by decide) (bN hb1 (c_isHand_n hw g1 g2 hb2 ⟨_, rfl, rfl, bY rfl (cr ?_)⟩))⟩)
      exact eX12_man (d := 899) hw2 (m_isBoat_y hw2 g1 m3.l hi1 ⟨_, rfl, rfl, bN (by decide) (bN hb1 (m_isHand_n hw2 g1 m3.l hb2 ⟨_, rfl, rfl, bY rfl mr⟩))⟩)
  · refine eX11_man (d := 899) hw (c_isBoat_n hw g1 g2 ha ⟨_, rfl, rfl, bY rfl (cr ?_)⟩)
    exact eX12_man (d := 899) hw2 (m_isBoat_n hw2 g1 m3.l ha ⟨_, rfl, rfl, bY rfl mr⟩)
end MN
