section MS8
variable {l : Launch} {G : gG} {d : Nat} {Q : Option Value → gH → Prop} {h h1 h2 : gH} {lk sp : Nat} {cd : Option Nat} {t : Nat → Nat} {n s i f q c b w z : Nat} {u : Bool} {L : qL} {a1 a2 : Int32} {out : sOut}
theorem m_statementTold (hw : gWf h lk sp cd) (tw : TWf t n) (tp : TPm t h) (k : MTk t n s u h) (a2 : h.1 82 2 = nI s) (lm : LMp L h) (qp : qP L s) (hC : 3 ≤ qC L.1) (h56 : h.1 82 56 = nI c) (c1 : c ≠ 0) (c60 : c < 60) (r : StR t n (c = 0) L (s, u) out)
    (hy : ∀ L' p' p'' h', out = .ok (L', p') → sgF t n 59 p' = .ok p'' → MPs h h' → MTk t n p''.1 p''.2 (sI h' 82 56 (nI (c + 1))) → LMp L' (sI h' 82 56 (nI (c + 1))) → Q none (sI h' 82 56 (nI (c + 1))))
    (hn : ∀ f q h', (out = .error (f, q) ∨ ∃ L' p', out = .ok (L', p') ∧ sgF t n 59 p' = .error (f, q)) → 1 ≤ f ∧ f < 10 → MPf f q h h' → Q none (sI h' 82 56 (nI (c + 1)))) : gC l G (d + 7) MX12_statementTold [.ref 82] h Q := by
  have n60 : ¬ h.1 82 56 = 60 := fun y => by
    rw [h56] at y
    have : c = 60 := (nI_eq (b := 60) (by omega) (by decide)).mp y
    omega
  have RI : ∀ i, i < 40 → i ≠ 0 → isW t n i (s, u) → StI t n L (s, u) out := fun i hi i0 iw => by
    rcases StR_c c1 r with ⟨y | y, _⟩ | ⟨_, _, y⟩
    · exact absurd iw.1 y
    · exact absurd (wat_u hi (by decide) iw.2 y.2) i0
    · exact y
  refine eX12_statementTold hw (fun p e s9 m args below meth cc => ?_)
  have G257 : ∀ L' p' h1, gWf h1 lk sp cd → TPm t h1 → out = .ok (L', p') → MPs h h1 → MTk t n p'.1 p'.2 h1 → LMp L' h1 → gg p l e s9 m args below meth cc G (d + 7) MX12_statementTold Q 257 [some (.ref 82), some (.int (nI s))] [] h1 := fun L' p' h1 hw1 tp1 ro e1 k1 lm1 =>
    wX12_statementTold_257 hw1.1 hw1.2.1 hw1.2.2.1 (m_st257 (d := d + 4) (p := p) (e := e) (s9 := s9) (m := m) (args := args) (below := below) (meth := meth) (cc := cc) (x1 := none) (L' := L') (p' := p') hw1 tw tp1 e1 k1 lm1 h56 (fun p'' h' q' e' k' l' => hy L' p' p'' h' ro q' e' k' l') (fun f q h' q' f1 e' => hn f q h' (Or.inr ⟨L', p', ro, q'⟩) (by omega) e'))
  have B257 : ∀ f q h1, gWf h1 lk sp cd → out = .error (f, q) → 1 ≤ f ∧ f < 10 → MPf f q h h1 → gg p l e s9 m args below meth cc G (d + 7) MX12_statementTold Q 257 [some (.ref 82), some (.int (nI s))] [] h1 := fun f q h1 hw1 ro ff e1 => by
    have n5 : h1.1 82 5 ≠ 0 := by
      rw [e1.2.1]
      intro y
      have : f = 0 := (nI_eq (b := 0) (by omega) (by decide)).mp y
      omega
    refine wX12_statementTold_257 hw1.1 hw1.2.1 hw1.2.2.1 (m_asksSign_f (d := d + 5) hw1 n5 ⟨rfl, rfl, ?_⟩)
    rw [e1.1.2.1 56 (by decide), h56, nI_1]
    exact hn f q h1 (Or.inl ro) ff e1
  have TP : ∀ h1, MPs h h1 → TPm t h1 := fun h1 e1 => ⟨fun i hi => by rw [(e1.1.1.1 83 (by decide)).1]; exact tp.1 i hi, fun i hi j hj => by rw [(e1.1.1.1 (85 + i) (by simp; omega)).1]; exact tp.2.1 i hi j hj, fun i hi j hj => by rw [(e1.1.1.1 (143 + i) (by simp; omega)).1]; exact tp.2.2 i hi j hj⟩
  have gt : tkk t n s u = 1001 → s < nx t n s := fun y => nx_gt (tkk_n1 (t := t) (b := u) (by omega))
  rw [a2]
  refine bN' n60 ?_
  have e0 : MLx h h := MLx.rf
  refine m_takes (d := d + 4) (i := 1) (w := 86) hw tw tp k (by decide) rfl (by decide) (tp.2.1 1 (by decide)) (fun g0 iw eN kN => ⟨_, rfl, eN.1.2, bN (by decide) ?_⟩) (fun g0 nw1 eN k_1 _ => ⟨_, rfl, eN.1.2, bY rfl ?_⟩)
  · have E := e0.tr eN
    exact m_rowTold (d := d + 4) (hw.eq E.1) tw (tp.ml E.1) kN (lm.ml E) qp.1 hC (StI_row iw (RI 1 (by decide) (by decide) iw)) (fun L' p' h' ro e' k' lm' => ⟨rfl, e'.1.1.2, G257 L' p' h' ((hw.eq E.1).eq e'.1.1) (TP h' (E.px.tr e')) ro (E.px.tr e') k' lm'⟩) (fun f q h' ro ff e' => ⟨rfl, e'.1.1.2, B257 f q h' ((hw.eq E.1).eq e'.1.1) ro (by omega) (E.px.fl e')⟩)
  have e_1 := e0.tr eN
  have hw_1 := hw.eq e_1.1
  have tp_1 := tp.ml e_1.1
  refine m_takes (d := d + 4) (i := 2) (w := 87) hw_1 tw tp_1 k_1 (by decide) rfl (by decide) (tp_1.2.1 2 (by decide)) (fun g1 iw eN kN => ⟨_, rfl, eN.1.2, bN (by decide) ?_⟩) (fun g1 nw2 eN k_2 _ => ⟨_, rfl, eN.1.2, bY rfl ?_⟩)
  · have E := e_1.tr eN
    exact m_boatTold (d := d + 1) (hw.eq E.1) tw (tp.ml E.1) kN (lm.ml E) qp.1 (StI_boat iw (RI 2 (by decide) (by decide) iw)) (fun L' p' h' ro e' k' lm' => ⟨rfl, e'.1.1.2, G257 L' p' h' ((hw.eq E.1).eq e'.1.1) (TP h' (E.px.tr e')) ro (E.px.tr e') k' lm'⟩) (fun f q h' ro ff e' => ⟨rfl, e'.1.1.2, B257 f q h' ((hw.eq E.1).eq e'.1.1) ro (by omega) (E.px.fl e')⟩)
  have e_2 := e_1.tr eN
  have hw_2 := hw.eq e_2.1
  have tp_2 := tp.ml e_2.1
  refine m_takes (d := d + 4) (i := 5) (w := 90) hw_2 tw tp_2 k_2 (by decide) rfl (by decide) (tp_2.2.1 5 (by decide)) (fun g2 iw eN kN => ⟨_, rfl, eN.1.2, bN (by decide) ?_⟩) (fun g2 nw5 eN k_3 _ => ⟨_, rfl, eN.1.2, bY rfl ?_⟩)
  · have E := e_2.tr eN
    exact m_handTold (d := d + 1) (hw.eq E.1) tw (tp.ml E.1) kN (lm.ml E) qp.1 (StI_hand iw (RI 5 (by decide) (by decide) iw)) (fun L' p' h' ro e' k' lm' => ⟨rfl, e'.1.1.2, G257 L' p' h' ((hw.eq E.1).eq e'.1.1) (TP h' (E.px.tr e')) ro (E.px.tr e') k' lm'⟩) (fun f q h' ro ff e' => ⟨rfl, e'.1.1.2, B257 f q h' ((hw.eq E.1).eq e'.1.1) ro (by omega) (E.px.fl e')⟩)
  have e_3 := e_2.tr eN
  have hw_3 := hw.eq e_3.1
  have tp_3 := tp.ml e_3.1
  refine m_takes (d := d + 4) (i := 7) (w := 92) hw_3 tw tp_3 k_3 (by decide) rfl (by decide) (tp_3.2.1 7 (by decide)) (fun g3 iw eN kN => ⟨_, rfl, eN.1.2, bN (by decide) ?_⟩) (fun g3 nw7 eN k_4 _ => ⟨_, rfl, eN.1.2, bY rfl ?_⟩)
  · have E := e_3.tr eN
    exact m_likesTold (d := d + 1) (hw.eq E.1) tw (tp.ml E.1) kN (lm.ml E) qp.1 (StI_likes iw (RI 7 (by decide) (by decide) iw)) (fun L' p' h' ro e' k' lm' => ⟨rfl, e'.1.1.2, G257 L' p' h' ((hw.eq E.1).eq e'.1.1) (TP h' (E.px.tr e')) ro (E.px.tr e') k' lm'⟩) (fun f q h' ro ff e' => ⟨rfl, e'.1.1.2, B257 f q h' ((hw.eq E.1).eq e'.1.1) ro (by omega) (E.px.fl e')⟩)
  have e_4 := e_3.tr eN
  have hw_4 := hw.eq e_4.1
  have tp_4 := tp.ml e_4.1
  refine m_takes (d := d + 4) (i := 8) (w := 93) hw_4 tw tp_4 k_4 (by decide) rfl (by decide) (tp_4.2.1 8 (by decide)) (fun g4 iw eN kN => ⟨_, rfl, eN.1.2, bN (by decide) ?_⟩) (fun g4 nw8 eN k_5 _ => ⟨_, rfl, eN.1.2, bY rfl ?_⟩)
  · have E := e_4.tr eN
    exact m_skyTold (d := d + 1) (kk := 0) (hw.eq E.1) tw (tp.ml E.1) kN (lm.ml E) qp.1 (by decide) (StI_sky (k := 0) (by decide) iw (RI 8 (by decide) (by decide) iw)) (fun L' p' h' ro e' k' lm' => ⟨rfl, e'.1.1.2, G257 L' p' h' ((hw.eq E.1).eq e'.1.1) (TP h' (E.px.tr e')) ro (E.px.tr e') k' lm'⟩) (fun f q h' ro ff e' => ⟨rfl, e'.1.1.2, B257 f q h' ((hw.eq E.1).eq e'.1.1) ro (by omega) (E.px.fl e')⟩)
  have e_5 := e_4.tr eN
  have hw_5 := hw.eq e_5.1
  have tp_5 := tp.ml e_5.1
  refine m_takes (d := d + 4) (i := 9) (w := 94) hw_5 tw tp_5 k_5 (by decide) rfl (by decide) (tp_5.2.1 9 (by decide)) (fun g5 iw eN kN => ⟨_, rfl, eN.1.2, bN (by decide) ?_⟩) (fun g5 nw9 eN k_6 _ => ⟨_, rfl, eN.1.2, bY rfl ?_⟩)
  · have E := e_5.tr eN
    exact m_skyTold (d := d + 1) (kk := 1) (hw.eq E.1) tw (tp.ml E.1) kN (lm.ml E) qp.1 (by decide) (StI_sky (k := 1) (by decide) iw (RI 9 (by decide) (by decide) iw)) (fun L' p' h' ro e' k' lm' => ⟨rfl, e'.1.1.2, G257 L' p' h' ((hw.eq E.1).eq e'.1.1) (TP h' (E.px.tr e')) ro (E.px.tr e') k' lm'⟩) (fun f q h' ro ff e' => ⟨rfl, e'.1.1.2, B257 f q h' ((hw.eq E.1).eq e'.1.1) ro (by omega) (E.px.fl e')⟩)
  have e_6 := e_5.tr eN
  have hw_6 := hw.eq e_6.1
  have tp_6 := tp.ml e_6.1
  refine m_takes (d := d + 4) (i := 10) (w := 95) hw_6 tw tp_6 k_6 (by decide) rfl (by decide) (tp_6.2.1 10 (by decide)) (fun g6 iw eN kN => ⟨_, rfl, eN.1.2, bN (by decide) ?_⟩) (fun g6 nw10 eN k_7 _ => ⟨_, rfl, eN.1.2, bY rfl ?_⟩)
  · have E := e_6.tr eN
    exact m_skyTold (d := d + 1) (kk := 2) (hw.eq E.1) tw (tp.ml E.1) kN (lm.ml E) qp.1 (by decide) (StI_sky (k := 2) (by decide) iw (RI 10 (by decide) (by decide) iw)) (fun L' p' h' ro e' k' lm' => ⟨rfl, e'.1.1.2, G257 L' p' h' ((hw.eq E.1).eq e'.1.1) (TP h' (E.px.tr e')) ro (E.px.tr e') k' lm'⟩) (fun f q h' ro ff e' => ⟨rfl, e'.1.1.2, B257 f q h' ((hw.eq E.1).eq e'.1.1) ro (by omega) (E.px.fl e')⟩)
  have e_7 := e_6.tr eN
  have hw_7 := hw.eq e_7.1
  have tp_7 := tp.ml e_7.1
  refine m_takes (d := d + 4) (i := 11) (w := 96) hw_7 tw tp_7 k_7 (by decide) rfl (by decide) (tp_7.2.1 11 (by decide)) (fun g7 iw eN kN => ⟨_, rfl, eN.1.2, bN (by decide) ?_⟩) (fun g7 nw11 eN k_8 _ => ⟨_, rfl, eN.1.2, bY rfl ?_⟩)
  · have E := e_7.tr eN
    exact m_skyTold (d := d + 1) (kk := 3) (hw.eq E.1) tw (tp.ml E.1) kN (lm.ml E) qp.1 (by decide) (StI_sky (k := 3) (by decide) iw (RI 11 (by decide) (by decide) iw)) (fun L' p' h' ro e' k' lm' => ⟨rfl, e'.1.1.2, G257 L' p' h' ((hw.eq E.1).eq e'.1.1) (TP h' (E.px.tr e')) ro (E.px.tr e') k' lm'⟩) (fun f q h' ro ff e' => ⟨rfl, e'.1.1.2, B257 f q h' ((hw.eq E.1).eq e'.1.1) ro (by omega) (E.px.fl e')⟩)
  have e_8 := e_7.tr eN
  have hw_8 := hw.eq e_8.1
  have tp_8 := tp.ml e_8.1
  refine m_takes (d := d + 4) (i := 12) (w := 97) hw_8 tw tp_8 k_8 (by decide) rfl (by decide) (tp_8.2.1 12 (by decide)) (fun g8 iw eN kN => ⟨_, rfl, eN.1.2, bN (by decide) ?_⟩) (fun g8 nw12 eN k_9 _ => ⟨_, rfl, eN.1.2, bY rfl ?_⟩)
  · have E := e_8.tr eN
    exact m_sumIsTold (d := d) (z := 0) (hw.eq E.1) tw (tp.ml E.1) kN (lm.ml E) qp (gt iw.1) (by decide) (StI_sum (k := 0) (by decide) iw (RI 12 (by decide) (by decide) iw)) (fun L' p' h' ro e' k' lm' => ⟨rfl, e'.1.1.2, G257 L' p' h' ((hw.eq E.1).eq e'.1.1) (TP h' (E.px.tr e')) ro (E.px.tr e') k' lm'⟩) (fun f q h' ro ff e' => ⟨rfl, e'.1.1.2, B257 f q h' ((hw.eq E.1).eq e'.1.1) ro ff (E.px.fl e')⟩)
  have e_9 := e_8.tr eN
  have hw_9 := hw.eq e_9.1
  have tp_9 := tp.ml e_9.1
  refine m_takes (d := d + 4) (i := 13) (w := 98) hw_9 tw tp_9 k_9 (by decide) rfl (by decide) (tp_9.2.1 13 (by decide)) (fun g9 iw eN kN => ⟨_, rfl, eN.1.2, bN (by decide) ?_⟩) (fun g9 nw13 eN k_10 _ => ⟨_, rfl, eN.1.2, bY rfl ?_⟩)
  · have E := e_9.tr eN
    exact m_sumIsTold (d := d) (z := 1) (hw.eq E.1) tw (tp.ml E.1) kN (lm.ml E) qp (gt iw.1) (by decide) (StI_sum (k := 1) (by decide) iw (RI 13 (by decide) (by decide) iw)) (fun L' p' h' ro e' k' lm' => ⟨rfl, e'.1.1.2, G257 L' p' h' ((hw.eq E.1).eq e'.1.1) (TP h' (E.px.tr e')) ro (E.px.tr e') k' lm'⟩) (fun f q h' ro ff e' => ⟨rfl, e'.1.1.2, B257 f q h' ((hw.eq E.1).eq e'.1.1) ro ff (E.px.fl e')⟩)
  have e_10 := e_9.tr eN
  have hw_10 := hw.eq e_10.1
  have tp_10 := tp.ml e_10.1
  refine m_takes (d := d + 4) (i := 14) (w := 99) hw_10 tw tp_10 k_10 (by decide) rfl (by decide) (tp_10.2.1 14 (by decide)) (fun g10 iw eN kN => ⟨_, rfl, eN.1.2, bN (by decide) ?_⟩) (fun g10 nw14 eN k_11 _ => ⟨_, rfl, eN.1.2, bY rfl ?_⟩)
  · have E := e_10.tr eN
    exact m_sumIsTold (d := d) (z := 2) (hw.eq E.1) tw (tp.ml E.1) kN (lm.ml E) qp (gt iw.1) (by decide) (StI_sum (k := 2) (by decide) iw (RI 14 (by decide) (by decide) iw)) (fun L' p' h' ro e' k' lm' => ⟨rfl, e'.1.1.2, G257 L' p' h' ((hw.eq E.1).eq e'.1.1) (TP h' (E.px.tr e')) ro (E.px.tr e') k' lm'⟩) (fun f q h' ro ff e' => ⟨rfl, e'.1.1.2, B257 f q h' ((hw.eq E.1).eq e'.1.1) ro ff (E.px.fl e')⟩)
  have e_11 := e_10.tr eN
  have hw_11 := hw.eq e_11.1
  have tp_11 := tp.ml e_11.1
  refine m_asks (d := d + 3) (i := 15) (w := 100) hw_11 tw tp_11 k_11 (by decide) rfl (by decide) (tp_11.2.1 15 (by decide)) (fun p2 h3 q3 e3 k3 => ⟨rfl, e3.1.2, ?_⟩) (fun f q h3 q3 e3 => ⟨rfl, e3.1.2, ?_⟩)
  · have E := e_11.tr e3
    unfold wdF at q3
    split at q3
    · rename_i iw
      cases q3
      have r0 := StI_coax iw (RI 15 (by decide) (by decide) iw)
      refine m_number (d := d + 5) (lo := 1) (hi := 100) (hw.eq E.1) tw (tp.ml E.1) k3 (by decide) (by decide) (fun v4 p4 h4 q4 e4 k4 _ => ⟨_, rfl, e4.1.2, ?_⟩) (fun f q h4 x q4 e4 => ⟨_, rfl, e4.1.2, ?_⟩)
      · have ro := bdR_oI q4 r0
        have E4 := E.tr e4
        have P4 : MPs h (sI h4 126 0 (nI v4)) := E4.px.si (by decide) (by decide) (by decide)
        refine G257 _ _ _ (hw.eq P4.1.1) (TP _ P4) ro P4 (k4.c2 (sI_na (by decide))) ?_
        obtain ⟨a1, a2, a3, a4, a5, a6, a7, a8, a9, a10, a11, a12, a13, a14⟩ := lm.ml E4
        refine ⟨?_, ?_, ?_, ?_, ?_, sI_s _ _ _ _, fun x hx => ?_, fun x hx => ?_, fun x hx => ?_, fun x hx => ?_, fun x hx => ?_, fun x hx => ?_, ?_, fun x hx => ?_⟩
        · rw [sI_ne (by decide)]; exact a1
        · rw [sI_ne (by decide)]; exact a2
        · rw [sI_ne (by decide)]; exact a3
        · rw [sI_ne (by decide)]; exact a4
        · rw [sI_ne (by decide)]; exact a5
        · rw [sI_ne (by decide)]; exact a7 x hx
        · rw [sI_na (by decide)]; exact a8 x hx
        · rw [sI_na (by decide)]; exact a9 x hx
        · rw [sI_ne (by decide)]; exact a10 x hx
        · rw [sI_na (by decide)]; exact a11 x hx
        · rw [sI_na (by decide), sI_na (by decide)]; exact a12 x hx
        · rw [sI_ne (by decide)]; exact a13
        · rw [sI_ne (by decide)]; exact a14 x hx
      · have ff := numF_f q4
        have E4 := (E.fl e4).px
        have P4 : MPf f q h (sI h4 126 0 x) := ⟨E4.1.sx (by decide) (by decide) (by decide), by rw [sI_ne (by decide)]; exact E4.2.1, by rw [sI_ne (by decide)]; exact E4.2.2⟩
        exact B257 f q _ (hw.eq P4.1.1) (bdR_eI q4 r0) (by omega) P4
    · cases q3
  · have f1 := wdF_c q3
    have E := (e_11.fl e3).px
    have n5 := E.ne (by omega)
    refine m_number_f (d := d + 5) (hw.eq E.1.1) n5 ⟨_, rfl, rfl, ?_⟩
    have P4 : MPf f q h (sI h3 126 0 0) := ⟨E.1.sx (by decide) (by decide) (by decide), by rw [sI_ne (by decide)]; exact E.2.1, by rw [sI_ne (by decide)]; exact E.2.2⟩
    refine B257 f q _ (hw.eq P4.1.1) ?_ (by omega) P4
    unfold wdF at q3
    split at q3
    · cases q3
    · rename_i nw15
      cases q3
      rcases StR_c c1 r with ⟨_, y⟩ | ⟨_, nw0, y⟩
      · exact y
      · refine StI_no (fun i hi i3 i4 i6 iw => ?_) y
        have : i = 0 ∨ i = 1 ∨ i = 2 ∨ i = 5 ∨ i = 7 ∨ i = 8 ∨ i = 9 ∨ i = 10 ∨ i = 11 ∨ i = 12 ∨ i = 13 ∨ i = 14 ∨ i = 15 := by omega
        rcases this with y | y | y | y | y | y | y | y | y | y | y | y | y
        · rw [y] at iw; exact nw0 iw
        · rw [y] at iw; exact nw1 iw
        · rw [y] at iw; exact nw2 iw
        · rw [y] at iw; exact nw5 iw
        · rw [y] at iw; exact nw7 iw
        · rw [y] at iw; exact nw8 iw
        · rw [y] at iw; exact nw9 iw
        · rw [y] at iw; exact nw10 iw
        · rw [y] at iw; exact nw11 iw
        · rw [y] at iw; exact nw12 iw
        · rw [y] at iw; exact nw13 iw
        · rw [y] at iw; exact nw14 iw
        · rw [y] at iw; exact nw15 iw
end MS8
