section SA
variable {l : Launch} {G : gG} {d : Nat} {Q : Option Value → gH → Prop} {h h0 h1 h2 hC h5 : gH} {lk sp : Nat} {cd : Option Nat} {t : Nat → Nat} {n s κ b n9 : Nat} {A F : qT}
theorem ucd_cv (u : Nat) : ucd u = ucc (cv u) := by
  unfold ucd cv
  by_cases z : u = 31
  · rw [if_pos z, if_pos z]; rfl
  · rw [if_neg z, if_neg z]
theorem inv_ask (hi : gInv Rst n9 h) {cd' : Option Nat} (hw : gWf h lk sp cd) (hwC : gWf hC lk sp cd') (CF : ∀ a, a ∉ [1, 4, 45, 46, 47, 48, 61, 62, 63, 64] → hC.1 a = h.1 a ∧ hC.2.1 a = h.2.1 a) (c12 : hC.1 1 2 = 0) (e : MA hC h5) (d1 : h5.1 82 1 = 0) (f8 : hC.1 1 8 = h5.1 82 7) (f9 : hC.1 1 9 = h5.1 82 8) : gInv Rst (n9 + 1) h5 := by
  obtain ⟨j1, j2, j3, j4, j5, j6, lk', sp', cd'', A, F, hw', g1, g2, g3, g4, ⟨T, hT, g5⟩, g6, g7, g8, g9⟩ := hi
  have same : lk' = lk ∧ sp' = sp := by
    have e1 : gRF lk' sp' cd'' = gRF lk sp cd := hw'.1.symm.trans hw.1
    have e2 := congrFun (congrFun e1 29) 2
    have e3 := congrFun (congrFun e1 0) 11
    exact ⟨Option.some.inj e2, Option.some.inj e3⟩
  obtain ⟨rfl, rfl⟩ := same
  have hlk := hw.2.1
  have hw5 : gWf h5 lk' sp' cd' := hwC.eq e.1
  have E : ∀ a, a ∉ [82, 131, 132, 164, 165, 166] → a ∉ [1, 4, 45, 46, 47, 48, 61, 62, 63, 64] → h5.1 a = h.1 a ∧ h5.2.1 a = h.2.1 a := fun a z1 z2 => ⟨(e.1.1 a z1).1.trans (CF a z2).1, (e.1.1 a z1).2.trans (CF a z2).2⟩
  have e82 := CF 82 (by decide)
  have E82 : ∀ j, j ∉ [1, 2, 3, 4, 5, 6, 7, 8, 10, 45, 66, 83, 106, 108, 109, 110, 112, 114] → h5.1 82 j = h.1 82 j := fun j z => by rw [e.2.1 j z, e82.1]
  have e6 := (E 6 (by decide) (by decide)).1
  have e58 := (E 58 (by decide) (by decide)).1
  refine ⟨⟨lk', sp', cd', hw5⟩, fun i hi9 => ?_, ⟨?_, ?_⟩, ?_, ⟨⟨0, by decide, ?_, ?_⟩, fun i hi9 => ?_⟩, ?_, lk', sp', cd', A, F, hw5, g1, ?_, ?_, g4, ⟨T, by omega, ?_⟩, ?_, ?_, ?_, ?_⟩
  · rw [(E 66 (by decide) (by decide)).1, (E 84 (by decide) (by decide)).1]; exact j2 i hi9
  · rw [(e.1.1 1 (by decide)).1]; exact f8
  · rw [(e.1.1 1 (by decide)).1]; exact f9
  · unfold I_pic
    rw [(E 0 (by decide) (by decide)).1, E82 116 (by decide), (E 65 (by decide) (by decide)).1, (E 167 (by decide) (by decide)).1]
    exact j4
  · rw [(e.1.1 1 (by decide)).1, c12]; rfl
  · rw [d1]; rfl
  · rw [(E 83 (by decide) (by decide)).1, (E 2 (by decide) (by decide)).1]
    exact j5.2 i hi9
  · unfold I_sed
    rw [(E 0 (by decide) (by decide)).2, e.2.2 82 (by decide), e82.2]
    exact j6
  · exact g2.cg (fun j hj => (E (lk' + j) (by simp; omega) (by simp; omega)).1)
  · exact g3.cg (fun k hk => E k (by simp at hk ⊢; omega) (by simp at hk ⊢; omega)) (E82 58 (by decide))
  · rw [(E 7 (by decide) (by decide)).1]; exact g5
  · rw [(E 133 (by decide) (by decide)).1]; exact g6
  · rw [e6]; exact g7
  · exact g8.cg e6 (fun j hj => (E (9 + j) (by simp; omega) (by simp; omega)).1) (E 142 (by decide) (by decide)).1 (E82 80 (by decide)) (E82 81 (by decide))
  · refine g9.cg (by rw [e58]) (by rw [e58]) (E 59 (by decide) (by decide)).1 (E 60 (by decide) (by decide)).1 (E 141 (by decide) (by decide)).1 (E82 76 (by decide)) (E82 77 (by decide)) (fun k hk => ?_)
    have : ∀ k, k ∈ gWds → k ∉ [82, 131, 132, 164, 165, 166] ∧ k ∉ [1, 4, 45, 46, 47, 48, 61, 62, 63, 64] := by decide
    exact (E k (this k hk).1 (this k hk).2).1
theorem st_ask : gStepL l G (gInv Rst) MX11_ask MX12_ask 1 := by
  intro n9 h av hn9 hl hi
  obtain ⟨a, rfl⟩ := one_of hl
  have hi' := hi
  obtain ⟨j1, j2, j3, j4, j5, j6, lk, sp, cd, A, F, hw, g1, g2, g3, g4, ⟨T, hT, g5⟩, g6, g7, g8, g9⟩ := hi'
  obtain ⟨t, n, tw, t1, t2, t3, t4⟩ := tape_of j5
  have n16 := tw.1
  have hlk := hw.2.1
  have hsp := hw.2.2.1
  have B6 := g1.B6
  have tpc : TPc t n h := ⟨t1, t3, g9.2.1⟩
  have tpm : TPm t h := ⟨t4, g9.2.2.1, g9.2.2.2⟩
  rcases ixd a (qB A) (by omega) with ⟨b, hb, rfl⟩ | no
  · refine eX11_ask (d := 899) hw (c_isBoat_y hw g1 g2 hb ⟨_, rfl, rfl, bN' (by decide) ?_⟩)
    have hw0 := hw.eq (gEq.sI h 61 3 0)
    refine eX0_clear (d := 898) hw (Or.inr (Or.inl rfl)) (c_fill hw0 (n1 := 3) rfl (by decide) (fun h1 e1 a1 => ⟨rfl, e1.2, c_fill (hw0.eq e1) (n1 := 3) rfl (by decide) (fun h2 e2 a2 => ⟨rfl, e2.2, rfl, ?_, ?_⟩)⟩))
    · rw [e2.2, e1.2]; rfl
    have E2 : gEq [61, 63, 64] h h2 := (((gEq.sI h 61 3 0).tr e1).tr e2).mono (fun x hx => by simp at hx ⊢; omega)
    have hw2 := hw.eq E2
    have c2 : CDs 61 [] h2 := ⟨by rw [(e2.1 61 (by decide)).1, (e1.1 61 (by decide)).1, sI_s]; rfl, fun i hi => absurd hi (Nat.not_lt_zero _)⟩
    have tp2 : TPc t n h2 := by
      unfold TPc
      rw [(E2.1 1 (by decide)).1, (E2.1 2 (by decide)).1, (E2.1 3 (by decide)).1]
      exact tpc
    refine c_readQuestion (d := 844) hw2 tw tp2 c2 (fun κ e h3 hκ r K a8 a9 hw3 q63 q64 qcd gdq le => ⟨_, rfl, ⟨some 61, hw3.1⟩, bN' (i_nm1 (by omega)) ?_⟩) (fun f q h3 cd3 r K a8 a9 hw3 => ⟨_, rfl, ⟨cd3, hw3.1⟩, bY' rfl ⟨_, rfl, ?_⟩⟩)
    · -- it is answered
      obtain ⟨q1, q2, q3, q4, q5⟩ := gdQ_f (f := fun i => cv (e.getD i 0)) gdq (fun i => rfl)
      have gw : ∀ i, i < e.length → (fun i => cv (e.getD i 0)) i < 27 → (fun i => cv (e.getD i 0)) i ∈ [24, 25, 26, 16, 17, 18, 12, 3] := fun i hi z => aq_w (q3 _ (getD_m hi)) z
      have hw3' : gWf (sI h3 1 2 0) lk sp (some 61) := hw3.eq (gEq.sI h3 1 2 0)
      have CF3 : ∀ a, a ∉ [1, 4, 61, 62, 63, 64] → (sI h3 1 2 0).1 a = h.1 a ∧ (sI h3 1 2 0).2.1 a = h.2.1 a := fun a ha => by
        have x1 := K.1 a ha
        have x2 := E2.1 a (by simp at ha ⊢; omega)
        exact ⟨by rw [sI_na (by simp at ha; omega)]; exact x1.1.trans x2.1, x1.2.trans x2.2⟩
      have kc : KC A F T lk (sI h3 1 2 0) := ⟨g1, g2.cg (fun j hj => (CF3 (lk + j) (by simp; omega)).1), g4, by rw [(CF3 7 (by decide)).1]; exact g5, by rw [(CF3 6 (by decide)).1]; exact g7, by omega⟩
      have qc : QCd e (fun i => cv (e.getD i 0)) (sI h3 1 2 0) := by
        refine ⟨by rw [sI_ne (by decide)]; exact q63, by rw [sI_ne (by decide), Nat.zero_add]; exact q64, fun i hi => ?_⟩
        rw [sI_ne (by decide), Nat.zero_add, ← ucd_cv]
        exact qcd.2 i hi
      refine c_answer (d := 893) hw3' kc hb hκ qc gw q1 q2 le (fun h4 e4 => ⟨_, rfl, e4.2, _, rfl, ?_⟩)
      have hw4 := hw3'.eq e4
      have CF4 : ∀ a, a ∉ [1, 4, 45, 46, 47, 48, 61, 62, 63, 64] → h4.1 a = h.1 a ∧ h4.2.1 a = h.2.1 a := fun a ha => by
        have x1 := e4.1 a (by simp at ha ⊢; omega)
        have x2 := CF3 a (by simp at ha ⊢; omega)
        exact ⟨x1.1.trans x2.1, x1.2.trans x2.2⟩
      have c12 : h4.1 1 2 = 0 := by rw [(e4.1 1 (by decide)).1, sI_s]
      have c18 : h4.1 1 8 = 0 := by rw [(e4.1 1 (by decide)).1, sI_nb (by decide)]; exact a8
      have c19 : h4.1 1 9 = -1 := by rw [(e4.1 1 (by decide)).1, sI_nb (by decide)]; exact a9
      have e82 := CF4 82 (by decide)
      have tp4 : TPm t h4 := ⟨fun i hi => by rw [(CF4 83 (by decide)).1]; exact tpm.1 i hi, fun i hi j hj => by rw [(CF4 (85 + i) (by simp; omega)).1]; exact tpm.2.1 i hi j hj, fun i hi j hj => by rw [(CF4 (143 + i) (by simp; omega)).1]; exact tpm.2.2 i hi j hj⟩
      have km : KM A F h4 := ⟨g1, g3.cg (fun k hk => CF4 k (by simp at hk ⊢; omega)) (by rw [e82.1]), g4, by rw [(CF4 133 (by decide)).1]; exact g6⟩
      refine m_ask (d := 891) hw4 tw tp4 km hb (by rw [e82.1]; exact t2) r (fun κ' e' ro => by cases ro; exact ⟨gdq, le⟩) (fun κ' e' h5 _ ro e5 d1 d7 d8 => ⟨_, rfl, ?_⟩) (fun f q h5 ro _ _ _ _ => by cases ro)
      cases ro
      exact ⟨rfl, inv_ask hi hw hw4 CF4 c12 e5 d1 (by rw [c18, d7]) (by rw [c19, d8])⟩
    · have hw3' : gWf (sI h3 1 2 0) lk sp cd3 := hw3.eq (gEq.sI h3 1 2 0)
      have CF4 : ∀ a, a ∉ [1, 4, 45, 46, 47, 48, 61, 62, 63, 64] → (sI h3 1 2 0).1 a = h.1 a ∧ (sI h3 1 2 0).2.1 a = h.2.1 a := fun a ha => by
        have x1 := K.1 a (by simp at ha ⊢; omega)
        have x2 := E2.1 a (by simp at ha ⊢; omega)
        exact ⟨by rw [sI_na (by simp at ha; omega)]; exact x1.1.trans x2.1, x1.2.trans x2.2⟩
      have c12 : (sI h3 1 2 0).1 1 2 = 0 := sI_s _ _ _ _
      have c18 : (sI h3 1 2 0).1 1 8 = nI f := by rw [sI_nb (by decide)]; exact a8
      have c19 : (sI h3 1 2 0).1 1 9 = nI q := by rw [sI_nb (by decide)]; exact a9
      generalize (sI h3 1 2 0) = h4 at hw3' CF4 c12 c18 c19 ⊢
      have e82 := CF4 82 (by decide)
      have tp4 : TPm t h4 := ⟨fun i hi => by rw [(CF4 83 (by decide)).1]; exact tpm.1 i hi, fun i hi j hj => by rw [(CF4 (85 + i) (by simp; omega)).1]; exact tpm.2.1 i hi j hj, fun i hi j hj => by rw [(CF4 (143 + i) (by simp; omega)).1]; exact tpm.2.2 i hi j hj⟩
      have km : KM A F h4 := ⟨g1, g3.cg (fun k hk => CF4 k (by simp at hk ⊢; omega)) (by rw [e82.1]), g4, by rw [(CF4 133 (by decide)).1]; exact g6⟩
      refine m_ask (d := 891) hw3' tw tp4 km hb (by rw [e82.1]; exact t2) r (fun κ' e' ro => by cases ro) (fun κ' e' h5 _ ro _ _ _ _ => by cases ro) (fun f' q' h5 ro e5 d1 d7 d8 => ⟨_, rfl, ?_⟩)
      cases ro
      exact ⟨rfl, inv_ask hi hw hw3' CF4 c12 e5 d1 (by rw [c18, d7]) (by rw [c19, d8])⟩
  · refine eX11_ask (d := 899) hw (c_isBoat_n hw g1 g2 no ⟨_, rfl, rfl, bY' rfl ⟨_, rfl, ?_⟩⟩)
    have hw1 : gWf (sI h 1 2 0) lk sp cd := hw.eq (gEq.sI h 1 2 0)
    have CF4 : ∀ a, a ∉ [1, 4, 45, 46, 47, 48, 61, 62, 63, 64] → (sI h 1 2 0).1 a = h.1 a ∧ (sI h 1 2 0).2.1 a = h.2.1 a := fun a ha => ⟨sI_na (by simp at ha; omega), rfl⟩
    have km : KM A F (sI h 1 2 0) := ⟨g1, g3.cg (fun k hk => CF4 k (by simp at hk ⊢; omega)) (sI_ne (by decide)), g4, by rw [sI_na (by decide)]; exact g6⟩
    refine eX12_ask (d := 899) hw1 (fun p9 e9 s9 m9 args9 below9 meth9 cc9 => m_isBoat_n (d := 898) hw1 g1 km.l no ⟨_, rfl, rfl, bY' rfl ⟨_, rfl, rfl, ?_⟩⟩)
    refine inv_ask hi hw hw1 CF4 (sI_s _ _ _ _) (MA.rf.s82 (by decide)) (sI_s _ _ _ _) ?_ ?_
    · rw [sI_nb (by decide), sI_nb (by decide), sI_ne (by decide)]; exact j3.1
    · rw [sI_nb (by decide), sI_nb (by decide), sI_ne (by decide)]; exact j3.2
end SA
