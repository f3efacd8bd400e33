section MV
variable {l : Launch} {G : gG} {d : Nat} {Q : Option Value → gH → Prop} {h h1 h2 : gH} {lk sp : Nat} {cd : Option Nat} {t : Nat → Nat} {n s i f q c b w z : Nat} {u : Bool} {L : qL} {a1 a2 : Int32} {out : sOut}
theorem MGx.px (e : MGx h h1) : MPx h h1 := ⟨e.1.mono (fun x hx => by simp at hx ⊢; omega), fun j hj => e.2.1 j (fun y => hj (by simp at y ⊢; omega)), e.2.2.1, fun a x y i hi => by
  by_cases q : a = 129
  · subst q
    exact ⟨e.2.2.2 i hi, fun z => absurd z (by decide)⟩
  · have := e.1.1 a (by simp; omega)
    exact ⟨by rw [this.1], fun _ => by rw [this.2]⟩⟩
theorem MPx.si82 {j : Nat} {x : Int32} (e : MPx h h1) (hj : j ∈ [2, 4, 5, 6, 10, 45, 57, 60, 62, 63, 64]) : MPx h (sI h1 82 j x) := ⟨gE1 (by decide) e.1, fun i hi => by rw [sI_nb (fun z => hi (by rw [z]; exact hj))]; exact e.2.1 i hi, e.2.2.1, fun a y w i hi => ⟨by rw [sI_ne (by omega)]; exact (e.2.2.2 a y w i hi).1, (e.2.2.2 a y w i hi).2⟩⟩
theorem MPx.sx {k j : Nat} {x : Int32} (e : MPx h h1) (h1' : 119 ≤ k) (h2' : k ≤ 129) (hj : j < mlo k) : MPx h (sI h1 k j x) := by
  refine ⟨gE1 (by simp; omega) e.1, fun i hi => ?_, e.2.2.1, fun a y w i hi => ⟨?_, (e.2.2.2 a y w i hi).2⟩⟩
  · rw [sI_ne (by omega)]; exact e.2.1 i hi
  · by_cases q : a = k
    · rw [q, sI_nb (fun z => by rw [q, z] at hi; omega)]; rw [q] at hi y w; exact (e.2.2.2 k y w i hi).1
    · rw [sI_ne q]; exact (e.2.2.2 a y w i hi).1
/-- the model is told of a sum -/
theorem m_sumIsTold (hw : gWf h lk sp cd) (tw : TWf t n) (tp : TPm t h) (k : MTk t n (nx t n s) (nj t n s) h) (lm : LMp L h) (qp : qP L s) (gt : s < nx t n s) (hz : z < 3) (r : (qsl L.1 z ≠ 0 ∧ out = .error (5, s)) ∨ (qsl L.1 z = 0 ∧ suR t n L (s, u) z out))
    (hy : ∀ L' p' h', out = .ok (L', p') → MPs h h' → MTk t n p'.1 p'.2 h' → LMp L' h' → Q none h')
    (hn : ∀ f q h', out = .error (f, q) → 1 ≤ f ∧ f < 10 → MPf f q h h' → Q none h') : gC l G (d + 6) MX12_sumIsTold [.ref 82, .int (nI z), .int (nI s)] h Q := by
  have n16 := tw.1
  have k5 := k.2.2.2.1
  have mz := lm.2.2.2.2.2.2.2.2.2.2.2.1 z hz
  have p4 := qp.2.2.2.1
  have p5 := (qp.2.2.2.2 z hz).1
  have kn := k.1
  refine eX12_sumIsTold hw (bY' k5 ⟨vp_in_nI (by omega) (by decide), ?_⟩)
  rw [nI_clamp (by omega)]
  by_cases z0 : qsl L.1 z = 0
  · rw [if_pos z0] at mz
    have r : suR t n L (s, u) z out := by
      rcases r with r | r
      · exact absurd z0 r.1
      · exact r.2
    obtain ⟨o, ⟨K, hr⟩, r⟩ := r
    have main : ∀ x : Int32, (x = 0 ↔ decide (z = 0) = false) → gC l G (d + 5) MX12_sumsTold [.ref 82] (sI (sI (sI (sI (sI h 82 57 x) 127 z (h.1 82 60)) 82 62 0) 82 63 0) 82 64 0) (rV fun h1 => h1.2.2 = ((sI (sI (sI (sI (sI h 82 57 x) 127 z (h.1 82 60)) 82 62 0) 82 63 0) 82 64 0)).2.2 ∧ (vp_in (nI z) 6 ∧ Q none (sI h1 128 z (h1.1 82 60)))) := by
      intro x hx
      obtain ⟨a1, a2, a3, a4, a5, a6, a7, a8, a9, a10, a11, a12, a13, a14⟩ := lm
      rw [a13]
      have E0 : MPx h (sI (sI (sI (sI (sI h 82 57 x) 127 z (nI L.2.1.length)) 82 62 0) 82 63 0) 82 64 0) := ((((MPx.rf.si82 (by decide)).sx (by decide) (by decide) (by show z < 3; omega)).si82 (by decide)).si82 (by decide)).si82 (by decide)
      have hw0 := hw.eq E0.1
      have O82 : ∀ j, j ≠ 57 → j ≠ 62 → j ≠ 63 → j ≠ 64 → (sI (sI (sI (sI (sI h 82 57 x) 127 z (nI L.2.1.length)) 82 62 0) 82 63 0) 82 64 0).1 82 j = h.1 82 j := fun j x1 x2 x3 x4 => by rw [sI_nb x4, sI_nb x3, sI_nb x2, sI_ne (by decide), sI_nb x1]
      have O : ∀ a, a ≠ 82 → a ≠ 127 → (sI (sI (sI (sI (sI h 82 57 x) 127 z (nI L.2.1.length)) 82 62 0) 82 63 0) 82 64 0).1 a = h.1 a := fun a x1 x2 => by rw [sI_na x1, sI_na x1, sI_na x1, sI_na x2, sI_na x1]
      have tp0 : TPm t (sI (sI (sI (sI (sI h 82 57 x) 127 z (nI L.2.1.length)) 82 62 0) 82 63 0) 82 64 0) := ⟨fun i hi => by rw [O 83 (by decide) (by decide)]; exact tp.1 i hi, fun i hi j hj => by rw [O (85 + i) (by omega) (by omega)]; exact tp.2.1 i hi j hj, fun i hi j hj => by rw [O (143 + i) (by omega) (by omega)]; exact tp.2.2 i hi j hj⟩
      have m0 : MSt t n (nx t n s, nj t n s) [] L.2.1 (sI (sI (sI (sI (sI h 82 57 x) 127 z (nI L.2.1.length)) 82 62 0) 82 63 0) 82 64 0) := by
        refine ⟨?_, ?_, trivial, ?_, sI_s _ _ _ _, ?_, fun i hi => ?_, ?_, fun x hx => (by cases hx), by decide⟩
        · unfold MTk at k ⊢
          rw [O82 3 (by decide) (by decide) (by decide) (by decide), O82 5 (by decide) (by decide) (by decide) (by decide), O82 2 (by decide) (by decide) (by decide) (by decide), O82 4 (by decide) (by decide) (by decide) (by decide)]
          exact k
        · rw [sI_nb (by decide), sI_nb (by decide), sI_s]; rfl
        · rw [sI_nb (by decide), sI_s]; rfl
        · rw [O82 60 (by decide) (by decide) (by decide) (by decide)]; exact a13
        · rw [O 129 (by decide) (by decide)]; exact a14 i hi
        · show L.2.1.length + 0 < nx t n s
          omega
      refine m_sumsTold (d := d) (dr := decide (z = 0)) hw0 tw tp0 ?_ m0 hr (fun f q h1 eo f0 f10 e1 => ⟨rfl, e1.1.1.2, vp_in_nI (by omega) (by decide), ?_⟩) (fun p' C' h1 eo e1 md => ⟨rfl, e1.1.1.2, vp_in_nI (by omega) (by decide), ?_⟩)
      · rw [sI_nb (by decide), sI_nb (by decide), sI_nb (by decide), sI_ne (by decide), sI_s]; exact hx
      · refine hn f q _ (bdR_eI eo r) (by omega) ⟨(E0.tr e1.1.px).sx (by decide) (by decide) (by show z < 3; omega), ?_, ?_⟩
        · rw [sI_ne (by decide)]; exact e1.2.1
        · rw [sI_ne (by decide)]; exact e1.2.2
      · obtain ⟨lt, ro⟩ := bdR_oI eo r
        have lt : L.2.1.length < C'.length := lt
        obtain ⟨m1, m2, m3, m4⟩ := md
        rw [m2]
        refine hy _ _ _ ro ⟨(E0.tr e1.1.px).sx (by decide) (by decide) (by show z < 3; omega), ?_⟩ (m1.c2 (sI_na (by decide))) ?_
        · rw [sI_ne (by decide), e1.2, O82 6 (by decide) (by decide) (by decide) (by decide)]
        · have T : ∀ a, a ≠ 82 → a ≠ 127 → a ≠ 128 → a ≠ 129 → a ≠ 130 → (sI h1 128 z (nI C'.length)).1 a = h.1 a := fun a x1 x2 x3 x4 x5 => by
            rw [sI_na x3, (e1.1.1.1 a (by simp; omega)).1, O a x1 x2]
          have T120 : (sI h1 128 z (nI C'.length)).2.1 120 = h.2.1 120 := (e1.1.1.1 120 (by decide)).2
          have so : ∀ a x, (a < 8 ∨ a = 9) → L.1 a x = sumA L.1 z L.2.1 C' a x := fun a x ha => ((fupd_i (by omega)).trans (frw_n (by omega))).symm
          have sl : ∀ x, qsl (sumA L.1 z L.2.1 C') x = if x = z then C'.length - L.2.1.length else qsl L.1 x := fun x => by
            show fupd (frw L.1 (10 + z) _) 8 z _ 8 x = _
            rw [fupd_r, frw_n (by omega)]
            rfl
          have eC : qC (sumA L.1 z L.2.1 C') = qC L.1 := (so 0 0 (by omega)).symm
          refine ⟨?_, ?_, ?_, ?_, ?_, ?_, fun x hx => ?_, fun x hx => ?_, fun x hx => ?_, fun x hx => ?_, fun x hx => ?_, fun x hx => ?_, ?_, fun x hx => ?_⟩
          · rw [T 119 (by decide) (by decide) (by decide) (by decide) (by decide)]; exact a1.trans (congrArg nI (so 0 0 (by omega)))
          · rw [T 119 (by decide) (by decide) (by decide) (by decide) (by decide)]; exact a2.trans (congrArg nI (so 0 1 (by omega)))
          · rw [T 119 (by decide) (by decide) (by decide) (by decide) (by decide)]; exact a3.trans (congrArg nI (so 0 2 (by omega)))
          · rw [T 119 (by decide) (by decide) (by decide) (by decide) (by decide)]; exact a4.trans (congrArg nI (so 0 3 (by omega)))
          · rw [T 119 (by decide) (by decide) (by decide) (by decide) (by decide)]; exact a5.trans (congrArg nI (so 0 4 (by omega)))
          · rw [T 126 (by decide) (by decide) (by decide) (by decide) (by decide)]; exact a6.trans (congrArg nI (so 0 5 (by omega)))
          · have hx : x < qN (sumA L.1 z L.2.1 C') := hx
            unfold qN qR at hx
            rw [eC, ← so 0 1 (by omega)] at hx
            show (sI h1 128 z (nI C'.length)).1 121 (8 * (x / qC (sumA L.1 z L.2.1 C')) + x % qC (sumA L.1 z L.2.1 C')) = _
            rw [eC, T 121 (by decide) (by decide) (by decide) (by decide) (by decide)]
            exact (a7 x hx).trans (congrArg (fun y => nI (mkd y)) (so 1 x (by omega)))
          · have hx : x < qB (sumA L.1 z L.2.1 C') := hx
            unfold qB at hx
            rw [← so 0 2 (by omega)] at hx
            obtain ⟨y1, y2, y3⟩ := a8 x hx
            rw [T 122 (by decide) (by decide) (by decide) (by decide) (by decide), T120, y1, y2, y3]
            exact ⟨congrArg lN (p27_cg 6 (fun j _ => so 7 _ (by omega))), congrArg nI (so 9 x (by omega)), congrArg nI (so 2 x (by omega))⟩
          · have hx : x < qH (sumA L.1 z L.2.1 C') := hx
            unfold qH at hx
            rw [← so 0 3 (by omega)] at hx
            obtain ⟨y1, y2⟩ := a9 x hx
            rw [T 123 (by decide) (by decide) (by decide) (by decide) (by decide), T120, y1, y2]
            exact ⟨congrArg lN (p27_cg 6 (fun j _ => so 7 _ (by omega))), congrArg nI (so 3 x (by omega))⟩
          · rw [T 124 (by decide) (by decide) (by decide) (by decide) (by decide)]
            exact (a10 x hx).trans (congrArg nI (so 4 x (by omega)))
          · have hx : x < qK (sumA L.1 z L.2.1 C') := hx
            unfold qK at hx
            rw [← so 0 4 (by omega)] at hx
            obtain ⟨y1, y2⟩ := a11 x hx
            rw [T 125 (by decide) (by decide) (by decide) (by decide) (by decide), y1, y2]
            exact ⟨congrArg nI (so 5 x (by omega)), congrArg nI (so 6 x (by omega))⟩
          · have u7 : (sI h1 128 z (nI C'.length)).1 127 x = (sI h 127 z (nI L.2.1.length)).1 127 x := by
              rw [sI_ne (by decide), (e1.1.1.1 127 (by decide)).1, sI_ne (by decide), sI_ne (by decide), sI_ne (by decide)]
              rfl
            have u8 : h1.1 128 = h.1 128 := by rw [(e1.1.1.1 128 (by decide)).1, O 128 (by decide) (by decide)]
            show if qsl (sumA L.1 z L.2.1 C') x = 0 then (sI h1 128 z (nI C'.length)).1 127 x = -1 else ((sI h1 128 z (nI C'.length)).1 127 x = nI (if x = z then L.2.1.length else L.2.2 x) ∧ (sI h1 128 z (nI C'.length)).1 128 x = nI ((if x = z then L.2.1.length else L.2.2 x) + qsl (sumA L.1 z L.2.1 C') x))
            rw [sl, u7]
            by_cases y : x = z
            · rw [if_pos y, if_pos y, if_neg (by omega), y, sI_s, sI_s]
              exact ⟨rfl, by rw [show L.2.1.length + (C'.length - L.2.1.length) = C'.length by omega]⟩
            · rw [if_neg y, if_neg y, sI_nb y, sI_nb y, u8]
              exact a12 x hx
          · rw [sI_ne (by decide)]; exact m2
          · rw [sI_ne (by decide)]; exact m3 x hx
    refine ⟨fun _ => bY k5 ⟨fun y => ⟨vp_in_nI (by omega) (by decide), main 0 ?_⟩, fun y => ⟨vp_in_nI (by omega) (by decide), main 1 ?_⟩⟩, fun y => absurd mz y⟩
    · have : z ≠ 0 := fun q => y (by rw [q]; rfl)
      rw [decide_eq_false this]
      decide
    · have : z = 0 := (nI_eq (b := 0) (by omega) (by decide)).mp y
      rw [decide_eq_true this]
      decide
  · rw [if_neg z0] at mz
    have r : out = .error (5, s) := by
      rcases r with r | r
      · exact r.2
      · exact absurd r.1 z0
    refine ⟨fun y => absurd (mz.1.symm.trans y) (i_nm1 (by omega)), fun _ => m_fail (f := 5) hw k5 (fun h5 e5 => ⟨rfl, e5.1.2, ?_⟩)⟩
    exact bN (e5.px.ne (by decide)) (hn 5 s h5 r (by decide) e5.px)
end MV
