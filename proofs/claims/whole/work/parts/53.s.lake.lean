section MH
variable {l : Launch} {G : gG} {d : Nat} {Q : Option Value → gH → Prop} {h h1 h2 : gH} {lk sp : Nat} {cd : Option Nat} {t : Nat → Nat} {n s i f q c b w z : Nat} {u : Bool} {L : qL} {a1 a2 : Int32} {out : sOut}
theorem wdF_c {p : Nat × Bool} {i f q : Nat} (h : wdF t n i p = .error (f, q)) : f = 1 := by
  unfold wdF at h
  split at h
  · cases h
  · cases h; rfl
theorem MPf.ne (e : MPf f q h h1) (hf : 1 ≤ f ∧ f ≤ 5) : h1.1 82 5 ≠ 0 := nI_f0 e.2.1 (by omega)
theorem MTk.c2 (k : MTk t n s u h) (e : h1.1 82 = h.1 82) : MTk t n s u h1 := by
  unfold MTk at k ⊢
  rw [e]
  exact k
/-- the model is told of a hand -/
theorem m_handTold (hw : gWf h lk sp cd) (tw : TWf t n) (tp : TPm t h) (k : MTk t n (nx t n s) (nj t n s) h) (lm : LMp L h) (g : qG L.1) (r : (qH L.1 = 6 ∧ out = .error (5, s)) ∨ (qH L.1 ≠ 6 ∧ haR t n L (s, u) out))
    (hy : ∀ L' p' h', out = .ok (L', p') → MPs h h' → MTk t n p'.1 p'.2 h' → LMp L' h' → Q none h')
    (hn : ∀ f q h', out = .error (f, q) → 1 ≤ f ∧ f ≤ 5 → MPf f q h h' → Q none h') : gC l G (d + 5) MX12_handTold [.ref 82, .int (nI s)] h Q := by
  have H6 := g.2.2.1
  have B6 := g.2.1
  refine eX12_handTold hw (m_isFull (d := d + 3) (k := 3) (m := 6) hw k.2.2.2.1 (by decide) lm.2.2.2.1 (by omega) (by decide) (fun h1 v6 e1 => ⟨_, rfl, e1.1.2, bN (by decide) (hn 5 s h1 ?_ (by decide) e1.px)⟩) (fun v6 => ⟨_, rfl, rfl, bY rfl ?_⟩))
  · rcases r with r | r
    · exact r.2
    · exact absurd v6 r.1
  · have r : haR t n L (s, u) out := by
      rcases r with r | r
      · exact absurd r.1 v6
      · exact r.2
    have F4 : ∀ h4, gWf h4 lk sp cd → h4.1 82 5 ≠ 0 → ∀ v : Int32, Q none h4 → h4.2.2 = h4.2.2 := fun _ _ _ _ _ => rfl
    refine m_newName (d := d) hw tw tp k lm g (fun p1 h2 q1 e2 k2 => ⟨_, rfl, e2.1.2, ?_⟩) (fun f q h2 x q1 hf e2 => ⟨_, rfl, e2.1.2, ?_⟩)
    · have r1 := bdR_oI q1 r
      have hw2 := hw.eq e2.1
      have tp2 := tp.ml e2.1
      refine m_asks (d := d + 1) (i := 6) (w := 91) hw2 tw tp2 k2 (by decide) rfl (by decide) (tp2.2.1 6 (by decide)) (fun p2 h3 q3 e3 k3 => ⟨rfl, e3.1.2, ?_⟩) (fun f q h3 q3 e3 => ⟨rfl, e3.1.2, ?_⟩)
      · have r2 := bdR_oI q3 r1
        have hw3 := hw2.eq e3.1
        have e23 := e2.tr e3
        refine m_number (d := d + 3) (lo := 0) (hi := 10) hw3 tw (tp.ml e23.1) k3 (by decide) (by decide) (fun v4 p4 h4 q4 e4 k4 _ => ⟨_, rfl, e4.1.2, bY k4.2.2.2.1 ?_⟩) (fun f q h4 x q4 e4 => ⟨_, rfl, e4.1.2, ?_⟩)
        · have r3 := bdR_oI q4 r2
          have e24 := e23.tr e4
          obtain ⟨a1, a2, a3, a4, a5, a6, a7, a8, a9, a10, a11, a12, a13, a14⟩ := lm.ml e24
          have nw := (nwf_ltr (b := nj t n s) tw (nnF_g q1).2).1
          have L6 : qH L.1 < 6 := by omega
          rw [a4]
          have e6 : 6 + nI (qH L.1) = nI (6 + qH L.1) := by rw [lit 6, nI_add]
          rw [e6, nI_clamp (by omega), nI_clamp (by omega), nI_1]
          refine ⟨vp_in_nI (by omega) (by decide), vp_in_nI (by omega) (by decide), hy _ _ _ r3 ?_ (k4.c2 ?_) ?_⟩
          · exact ((e24.px.sl (by omega)).si (by decide) (by decide) (by show qH L.1 < 6; omega)).si (by decide) (by decide) (by decide)
          · rw [sI_na (by decide), sI_na (by decide)]; rfl
          · refine ⟨?_, ?_, ?_, sI_s _ _ _ _, ?_, ?_, fun x hx => ?_, fun x hx => ?_, fun x hx => ?_, fun x hx => ?_, fun x hx => ?_, fun x hx => ?_, ?_, fun x hx => ?_⟩
            · rw [sI_nb (by decide), sI_ne (by decide)]; exact a1
            · rw [sI_nb (by decide), sI_ne (by decide)]; exact a2
            · rw [sI_nb (by decide), sI_ne (by decide)]; exact a3
            · rw [sI_nb (by decide), sI_ne (by decide)]; exact a5
            · rw [sI_ne (by decide), sI_ne (by decide)]; exact a6
            · rw [sI_ne (by decide), sI_ne (by decide)]; exact a7 x hx
            · have hx : x < qB L.1 := hx
              have e27 : p27 (qnm (handA t n L.1 (nx t n s) v4) 0 x) 6 = p27 (qnm L.1 0 x) 6 := p27_cg 6 (fun j hj => (handA_nm L6 (by omega) (by decide) hj).trans (if_neg (fun y => by omega)))
              obtain ⟨y1, y2⟩ := a8 x hx
              rw [sI_na (by decide), sI_na (by decide)]
              refine ⟨?_, y2⟩
              show (sL h4 120 (6 + qH L.1) _).2.1 120 x = lN (p27 (qnm (handA t n L.1 (nx t n s) v4) 0 x) 6)
              rw [sL_nb (by omega), e27]
              exact y1
            · have hx : x < qH L.1 + 1 := hx
              have e27 : p27 (qnm (handA t n L.1 (nx t n s) v4) 1 x) 6 = if x = qH L.1 then p27 (ltr t n (nx t n s)) 6 else p27 (qnm L.1 1 x) 6 := by
                by_cases y : x = qH L.1
                · rw [if_pos y]; exact p27_cg 6 (fun j hj => (handA_nm L6 (by omega) (by decide) hj).trans (if_pos ⟨rfl, y⟩))
                · rw [if_neg y]; exact p27_cg 6 (fun j hj => (handA_nm L6 (by omega) (by decide) hj).trans (if_neg (fun z => y z.2)))
              show (sL h4 120 (6 + qH L.1) _).2.1 120 (6 + x) = lN (p27 (qnm (handA t n L.1 (nx t n s) v4) 1 x) 6) ∧ _ = nI (qsk (handA t n L.1 (nx t n s) v4) x)
              rw [e27, handA_sk, sI_na (by decide)]
              by_cases y : x = qH L.1
              · subst y
                rw [if_pos rfl, if_pos rfl, sI_s, sL_s]
                exact ⟨rfl, rfl⟩
              · rw [if_neg y, if_neg y, sI_nb y, sL_nb (by omega)]
                exact a9 x (by omega)
            · rw [sI_ne (by decide), sI_ne (by decide)]; exact a10 x hx
            · rw [sI_na (by decide), sI_na (by decide)]; exact a11 x hx
            · rw [sI_na (by decide), sI_na (by decide), sI_na (by decide), sI_na (by decide)]; exact a12 x hx
            · rw [sI_ne (by decide), sI_ne (by decide)]; exact a13
            · rw [sI_ne (by decide), sI_ne (by decide)]; exact a14 x hx
        · have ff := numF_f q4
          have e24 := e23.fl e4
          exact bN (e24.px.ne (by omega)) (hn f q h4 (bdR_eI q4 r2) (by omega) e24.px)
      · have e23 := e2.fl e3
        have ff := wdF_c q3
        have n5 := e23.px.ne (by omega)
        exact m_number_f (d := d + 3) (hw2.eq e3.1) n5 ⟨_, rfl, rfl, bN n5 (hn f q h3 (bdR_eI q3 r1) (by omega) e23.px)⟩
    · have n5 := e2.px.ne (by omega)
      exact m_asks_f (d := d + 3) (m := wln 6) (hw.eq e2.1) rfl n5 ⟨rfl, rfl, m_number_f (d := d + 3) (hw.eq e2.1) n5 ⟨_, rfl, rfl, bN n5 (hn f q h2 (bdR_eI q1 r) (by omega) e2.px)⟩⟩
end MH
