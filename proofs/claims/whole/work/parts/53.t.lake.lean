section MB
variable {l : Launch} {G : gG} {d : Nat} {Q : Option Value → gH → Prop} {h h1 h2 : gH} {lk sp : Nat} {cd : Option Nat} {t : Nat → Nat} {n s i f q c b w z : Nat} {u : Bool} {L : qL} {a1 a2 : Int32} {out : sOut}
theorem mkd_0 {k : Nat} : mkd k = 0 ↔ k = 0 := by
  unfold mkd
  split <;> omega
/-- the model is told of a boat -/
theorem m_boatTold (hw : gWf h lk sp cd) (tw : TWf t n) (tp : TPm t h) (k : MTk t n (nx t n s) (nj t n s) h) (lm : LMp L h) (g : qG L.1) (r : (qB L.1 = 6 ∧ out = .error (5, s)) ∨ (qB L.1 ≠ 6 ∧ boR t n L (s, u) out))
    (hy : ∀ L' p' h', out = .ok (L', p') → MPs h h' → MTk t n p'.1 p'.2 h' → LMp L' h' → Q none h')
    (hn : ∀ f q h', out = .error (f, q) → 1 ≤ f ∧ f ≤ 5 → MPf f q h h' → Q none h') : gC l G (d + 5) MX12_boatTold [.ref 82, .int (nI s)] h Q := by
  have H6 := g.2.2.1
  have B6 := g.2.1
  have N48 := g.N48
  have C8 := g.C8
  have R6 := g.R6
  refine eX12_boatTold hw (m_isFull (d := d + 3) (k := 2) (m := 6) hw k.2.2.2.1 (by decide) lm.2.2.1 (by omega) (by decide) (fun h1 v6 e1 => ⟨_, rfl, e1.1.2, bN (by decide) (hn 5 s h1 ?_ (by decide) e1.px)⟩) (fun v6 => ⟨_, rfl, rfl, bY rfl ?_⟩))
  · rcases r with r | r
    · exact r.2
    · exact absurd v6 r.1
  · have r : boR t n L (s, u) out := by
      rcases r with r | r
      · exact absurd r.1 v6
      · exact r.2
    refine m_newName (d := d) hw tw tp k lm g (fun p1 h2 q1 e2 k2 => ⟨_, rfl, e2.1.2, ?_⟩) (fun f q h2 x q1 hf e2 => ⟨_, rfl, e2.1.2, ?_⟩)
    · have r1 := bdR_oI q1 r
      have hw2 := hw.eq e2.1
      have tp2 := tp.ml e2.1
      refine m_asks (d := d + 1) (i := 3) (w := 88) hw2 tw tp2 k2 (by decide) rfl (by decide) (tp2.2.1 3 (by decide)) (fun p2 h3 q3 e3 k3 => ⟨rfl, e3.1.2, ?_⟩) (fun f q h3 q3 e3 => ⟨rfl, e3.1.2, ?_⟩)
      · have r2 := bdR_oI q3 r1
        have hw3 := hw2.eq e3.1
        have e23 := e2.tr e3
        refine m_number (d := d + 3) (lo := 0) (hi := 100) hw3 tw (tp.ml e23.1) k3 (by decide) (by decide) (fun v4 p4 h4 q4 e4 k4 _ => ⟨_, rfl, e4.1.2, ?_⟩) (fun f q h4 x q4 e4 => ⟨_, rfl, e4.1.2, ?_⟩)
        · have r3 := bdR_oI q4 r2
          have hw4 := hw3.eq e4.1
          have e24 := e23.tr e4
          have tp4 := tp.ml e24.1
          refine m_asks (d := d + 1) (i := 4) (w := 89) hw4 tw tp4 k4 (by decide) rfl (by decide) (tp4.2.1 4 (by decide)) (fun p5 h5 q5 e5 k5 => ⟨rfl, e5.1.2, ?_⟩) (fun f q h5 q5 e5 => ⟨rfl, e5.1.2, ?_⟩)
          · have r4 := bdR_oI q5 r3
            have hw5 := hw4.eq e5.1
            have e25 := e24.tr e5
            rw [(lm.ml e25).1]
            refine m_number (d := d + 3) (lo := 0) (hi := qC L.1) hw5 tw (tp.ml e25.1) k5 (by decide) (by omega) (fun w6 p6 h6 q6 e6 k6 _ => ⟨_, rfl, e6.1.2, ?_⟩) (fun f q h6 x q6 e6 => ⟨_, rfl, e6.1.2, ?_⟩)
            · have r5 := bdR_oI q6 r4
              have hw6 := hw5.eq e6.1
              have e26 := e25.tr e6
              rw [(lm.ml e26).2.1]
              refine m_number (d := d + 3) (lo := 0) (hi := qR L.1) hw6 tw (tp.ml e26.1) k6 (by decide) (by omega) (fun w7 p7 h7 q7 e7 k7 a10' => ⟨_, rfl, e7.1.2, bY' k7.2.2.2.1 ?_⟩) (fun f q h7 x q7 e7 => ⟨_, rfl, e7.1.2, ?_⟩)
              · have r6 := bdR_oI q7 r5
                have hw7 := hw6.eq e7.1
                have e27 := e26.tr e7
                have b6 := (numF_b q6).2.1
                have b7 := (numF_b q7).2.1
                have L6 : qB L.1 < 6 := by omega
                obtain ⟨a1, a2, a3, a4, a5, a6, a7, a8, a9, a10, a11, a12, a13, a14⟩ := lm.ml e27
                have lt : qC L.1 * w7 + w6 < qN L.1 := by
                  have : qC L.1 * (w7 + 1) ≤ qC L.1 * qR L.1 := Nat.mul_le_mul_left _ b7
                  rw [Nat.mul_add, Nat.mul_one] at this
                  show _ < qC L.1 * qR L.1
                  omega
                have c0 : 0 < qC L.1 := by omega
                have dv : (qC L.1 * w7 + w6) / qC L.1 = w7 := by rw [Nat.mul_add_div c0, Nat.div_eq_of_lt b6, Nat.add_zero]
                have md : (qC L.1 * w7 + w6) % qC L.1 = w6 := by rw [Nat.mul_add_mod]; exact Nat.mod_eq_of_lt b6
                have kd := a7 _ lt
                rw [dv, md] at kd
                have e8 : 8 * nI w7 + nI w6 = nI (8 * w7 + w6) := by rw [lit 8, pk_mul, nI_add]
                have ec : nI (qC L.1) * nI w7 + nI w6 = nI (qC L.1 * w7 + w6) := by rw [pk_mul, nI_add]
                have e2B : 2 * nI (qB L.1) = nI (2 * qB L.1) := by rw [lit 2, pk_mul]
                have kb := g.2.2.2.2.2.2.1 _ lt
                have mb : mkd (qkd L.1 (qC L.1 * w7 + w6)) < 10 := by unfold mkd; split <;> omega
                have k0 : nI (mkd (qkd L.1 (qC L.1 * w7 + w6))) = 0 ↔ qkd L.1 (qC L.1 * w7 + w6) = 0 := by
                  rw [← mkd_0]
                  exact nI_eq (b := 0) (by omega) (by decide)
                rw [e8, nI_clamp (by omega), kd, k0, a10']
                refine ⟨vp_in_nI (by omega) (by decide), fun z0 => bY k7.2.2.2.1 ?_, fun z0 => m_fail (f := 2) hw7 k7.2.2.2.1 (fun h8 e8 => ⟨rfl, e8.1.2, ?_⟩)⟩
                · have ro : out = .ok ((boatA t n L.1 (nx t n s) v4 (qC L.1 * w7 + w6), L.2), p7) := by
                    rcases r6 with r6 | r6
                    · exact absurd z0 r6.1
                    · exact r6.2
                  rw [a3, a1, ec, e2B, nI_clamp (by omega), nI_clamp (by omega), nI_1, nI_clamp (by omega), nI_1]
                  refine ⟨vp_in_nI (by omega) (by decide), vp_in_nI (by omega) (by decide), vp_in_nI (by omega) (by decide), hy _ _ _ ro ?_ (k7.c2 ?_) ?_⟩
                  · exact (((e27.px.sl (by omega)).si (by decide) (by decide) (by show 2 * qB L.1 < 12; omega)).si (by decide) (by decide) (by show 2 * qB L.1 + 1 < 12; omega)).si (by decide) (by decide) (by decide)
                  · rw [sI_na (by decide), sI_na (by decide), sI_na (by decide)]; rfl
                  · refine ⟨?_, ?_, sI_s _ _ _ _, ?_, ?_, ?_, fun x hx => ?_, fun x hx => ?_, fun x hx => ?_, fun x hx => ?_, fun x hx => ?_, fun x hx => ?_, ?_, fun x hx => ?_⟩
                    · rw [sI_nb (by decide), sI_ne (by decide), sI_ne (by decide)]; exact a1
                    · rw [sI_nb (by decide), sI_ne (by decide), sI_ne (by decide)]; exact a2
                    · rw [sI_nb (by decide), sI_ne (by decide), sI_ne (by decide)]; exact a4
                    · rw [sI_nb (by decide), sI_ne (by decide), sI_ne (by decide)]; exact a5
                    · rw [sI_ne (by decide), sI_ne (by decide), sI_ne (by decide)]; exact a6
                    · rw [sI_ne (by decide), sI_ne (by decide), sI_ne (by decide)]; exact a7 x hx
                    · have hx : x < qB L.1 + 1 := hx
                      have e27 : p27 (qnm (boatA t n L.1 (nx t n s) v4 (qC L.1 * w7 + w6)) 0 x) 6 = if x = qB L.1 then p27 (ltr t n (nx t n s)) 6 else p27 (qnm L.1 0 x) 6 := by
                        by_cases y : x = qB L.1
                        · rw [if_pos y]; exact p27_cg 6 (fun j hj => (boatA_nm L6 (by omega) (by decide) hj).trans (if_pos ⟨rfl, y⟩))
                        · rw [if_neg y]; exact p27_cg 6 (fun j hj => (boatA_nm L6 (by omega) (by decide) hj).trans (if_neg (fun z => y z.2)))
                      show (sL h7 120 (qB L.1) _).2.1 120 x = lN (p27 (qnm (boatA t n L.1 (nx t n s) v4 (qC L.1 * w7 + w6)) 0 x) 6) ∧ _ = nI (qfc (boatA t n L.1 (nx t n s) v4 (qC L.1 * w7 + w6)) x) ∧ _ = nI (qft (boatA t n L.1 (nx t n s) v4 (qC L.1 * w7 + w6)) x)
                      rw [e27, boatA_fc, boatA_ft, sI_na (by decide)]
                      by_cases y : x = qB L.1
                      · subst y
                        rw [if_pos rfl, if_pos rfl, if_pos rfl, sI_s, sL_s, sI_nb (by omega), sI_s]
                        exact ⟨rfl, rfl, rfl⟩
                      · rw [if_neg y, if_neg y, if_neg y, sL_nb y, sI_nb (by omega), sI_nb (by omega), sI_nb (by omega), sI_nb (by omega)]
                        exact a8 x (by omega)
                    · have hx : x < qH L.1 := hx
                      have e27 : p27 (qnm (boatA t n L.1 (nx t n s) v4 (qC L.1 * w7 + w6)) 1 x) 6 = p27 (qnm L.1 1 x) 6 := p27_cg 6 (fun j hj => (boatA_nm L6 (by omega) (by decide) hj).trans (if_neg (fun y => by omega)))
                      obtain ⟨y1, y2⟩ := a9 x hx
                      rw [sI_na (by decide), sI_na (by decide), sI_na (by decide)]
                      refine ⟨?_, y2⟩
                      show (sL h7 120 (qB L.1) _).2.1 120 (6 + x) = lN (p27 (qnm (boatA t n L.1 (nx t n s) v4 (qC L.1 * w7 + w6)) 1 x) 6)
                      rw [sL_nb (by omega), e27]
                      exact y1
                    · rw [sI_ne (by decide), sI_ne (by decide), sI_ne (by decide)]; exact a10 x hx
                    · rw [sI_na (by decide), sI_na (by decide), sI_na (by decide)]; exact a11 x hx
                    · rw [sI_na (by decide), sI_na (by decide), sI_na (by decide), sI_na (by decide), sI_na (by decide), sI_na (by decide)]; exact a12 x hx
                    · rw [sI_ne (by decide), sI_ne (by decide), sI_ne (by decide)]; exact a13
                    · rw [sI_ne (by decide), sI_ne (by decide), sI_ne (by decide)]; exact a14 x hx
                · have ro : out = .error (2, p6.1) := by
                    rcases r6 with r6 | r6
                    · exact r6.2
                    · exact absurd r6.1 z0
                  have e28 := e27.fl e8
                  exact bN (e28.px.ne (by decide)) (hn 2 _ h8 ro (by decide) e28.px)
              · have ff := numF_f q7
                have e27 := (e26.fl e7).px
                have n5 := e27.ne (by omega)
                exact bN' n5 (bN n5 (hn f q h7 (bdR_eI q7 r5) (by omega) e27))
            · have ff := numF_f q6
              have e26 := (e25.fl e6).px
              have n5 := e26.ne (by omega)
              exact m_number_f (d := d + 3) (hw5.eq e6.1) n5 ⟨_, rfl, rfl, bN' n5 (bN n5 (hn f q h6 (bdR_eI q6 r4) (by omega) e26))⟩
          · have ff := wdF_c q5
            have e25 := (e24.fl e5).px
            have n5 := e25.ne (by omega)
            have hw5 := hw4.eq e5.1
            exact m_number_f (d := d + 3) hw5 n5 ⟨_, rfl, rfl, m_number_f (d := d + 3) hw5 n5 ⟨_, rfl, rfl, bN' n5 (bN n5 (hn f q h5 (bdR_eI q5 r3) (by omega) e25))⟩⟩
        · have ff := numF_f q4
          have e24 := (e23.fl e4).px
          have n5 := e24.ne (by omega)
          have hw4 := hw3.eq e4.1
          exact m_asks_f (d := d + 3) (m := wln 4) hw4 rfl n5 ⟨rfl, rfl, m_number_f (d := d + 3) hw4 n5 ⟨_, rfl, rfl, m_number_f (d := d + 3) hw4 n5 ⟨_, rfl, rfl, bN' n5 (bN n5 (hn f q h4 (bdR_eI q4 r2) (by omega) e24))⟩⟩⟩
      · have ff := wdF_c q3
        have e23 := (e2.fl e3).px
        have n5 := e23.ne (by omega)
        have hw3 := hw2.eq e3.1
        exact m_number_f (d := d + 3) hw3 n5 ⟨_, rfl, rfl, m_asks_f (d := d + 3) (m := wln 4) hw3 rfl n5 ⟨rfl, rfl, m_number_f (d := d + 3) hw3 n5 ⟨_, rfl, rfl, m_number_f (d := d + 3) hw3 n5 ⟨_, rfl, rfl, bN' n5 (bN n5 (hn f q h3 (bdR_eI q3 r1) (by omega) e23))⟩⟩⟩⟩
    · have n5 := e2.px.ne (by omega)
      have hw2 := hw.eq e2.1
      exact m_asks_f (d := d + 3) (m := wln 3) hw2 rfl n5 ⟨rfl, rfl, m_number_f (d := d + 3) hw2 n5 ⟨_, rfl, rfl, m_asks_f (d := d + 3) (m := wln 4) hw2 rfl n5 ⟨rfl, rfl, m_number_f (d := d + 3) hw2 n5 ⟨_, rfl, rfl, m_number_f (d := d + 3) hw2 n5 ⟨_, rfl, rfl, bN' n5 (bN n5 (hn f q h2 (bdR_eI q1 r) (by omega) e2.px))⟩⟩⟩⟩⟩
end MB
