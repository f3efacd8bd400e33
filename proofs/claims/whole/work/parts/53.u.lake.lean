section ML2
variable {l : Launch} {G : gG} {d : Nat} {Q : Option Value → gH → Prop} {h h1 h2 : gH} {lk sp : Nat} {cd : Option Nat} {t : Nat → Nat} {n s i f q c b w z : Nat} {u : Bool} {L : qL} {a1 a2 : Int32} {out : sOut}
/-- the model is told how a boat likes a hand -/
theorem m_likesTold (hw : gWf h lk sp cd) (tw : TWf t n) (tp : TPm t h) (k : MTk t n (nx t n s) (nj t n s) h) (lm : LMp L h) (g : qG L.1) (r : liR t n L (s, u) out)
    (hy : ∀ L' p' h', out = .ok (L', p') → MPs h h' → MTk t n p'.1 p'.2 h' → LMp L' h' → Q none h')
    (hn : ∀ f q h', out = .error (f, q) → 1 ≤ f ∧ f ≤ 5 → MPf f q h h' → Q none h') : gC l G (d + 5) MX12_likesTold [.ref 82] h Q := by
  have H6 := g.2.2.1
  have B6 := g.2.1
  obtain ⟨o1, q1, r⟩ := r
  refine eX12_likesTold hw (m_oneOf (d := d) (z := 0) (L := L) hw tw tp k (by decide) lm.2.2.1 B6 (fun j hj => by rw [show 6 * 0 + j = j by omega]; exact (lm.2.2.2.2.2.2.2.1 j hj).1) (fun j hj => g.2.2.2.2.2.2.2.2.2.2.2.1 j hj) q1 (fun o h1 z1 e1 k1 => ⟨_, rfl, e1.1.2, ?_⟩) (fun f q h1 x z1 hf e1 => ⟨_, rfl, e1.1.2, ?_⟩))
  · obtain ⟨o2, q2, r⟩ := bdR_oI z1 r
    have hw1 := hw.eq e1.1
    have lm1 := lm.ml e1
    have l1 := (knR_g (z1 ▸ q1)).1
    refine m_oneOf (d := d) (z := 1) (L := L) hw1 tw (tp.ml e1.1) k1 (by decide) lm1.2.2.2.1 H6 (fun j hj => by rw [show 6 * 1 + j = 6 + j by omega]; exact (lm1.2.2.2.2.2.2.2.2.1 j hj).1) (fun j hj => g.2.2.2.2.2.2.2.2.2.2.2.2.1 j hj) q2 (fun o' h2 z2 e2 k2 => ⟨_, rfl, e2.1.2, ?_⟩) (fun f q h2 x z2 hf e2 => ⟨_, rfl, e2.1.2, ?_⟩)
    · have r2 := bdR_oI z2 r
      have l2 := (knR_g (z2 ▸ q2)).1
      have hw2 := hw1.eq e2.1
      have e12 := e1.tr e2
      refine m_number (d := d + 3) (lo := 0) (hi := 100) hw2 tw (tp.ml e12.1) k2 (by decide) (by decide) (fun v3 p3 h3 q3 e3 k3 _ => ⟨_, rfl, e3.1.2, bY' k3.2.2.2.1 ?_⟩) (fun f q h3 x q3 e3 => ⟨_, rfl, e3.1.2, ?_⟩)
      · have ro := bdR_oI q3 r2
        have e13 := e12.tr e3
        obtain ⟨a1, a2, a3, a4, a5, a6, a7, a8, a9, a10, a11, a12, a13, a14⟩ := lm.ml e13
        have ee : 6 * nI o.1 + nI o'.1 = nI (6 * o.1 + o'.1) := by rw [lit 6, pk_mul, nI_add]
        rw [ee, nI_clamp (by omega)]
        refine ⟨vp_in_nI (by omega) (by decide), hy _ _ _ ro (e13.px.si (by decide) (by decide) (by show 6 * o.1 + o'.1 < 36; omega)) (k3.c2 (sI_na (by decide))) ?_⟩
        refine ⟨?_, ?_, ?_, ?_, ?_, ?_, fun x hx => ?_, fun x hx => ?_, fun x hx => ?_, fun x hx => ?_, fun x hx => ?_, fun x hx => ?_, ?_, fun x hx => ?_⟩
        · rw [sI_ne (by decide)]; exact a1
        · rw [sI_ne (by decide)]; exact a2
        · rw [sI_ne (by decide)]; exact a3
        · rw [sI_ne (by decide)]; exact a4
        · rw [sI_ne (by decide)]; exact a5
        · rw [sI_ne (by decide)]; exact a6
        · rw [sI_ne (by decide)]; exact a7 x hx
        · rw [sI_na (by decide)]; exact a8 x hx
        · rw [sI_na (by decide)]; exact a9 x hx
        · show _ = nI (fupd L.1 4 (6 * o.1 + o'.1) v3 4 x)
          rw [fupd_r]
          by_cases y : x = 6 * o.1 + o'.1
          · rw [if_pos y, y, sI_s]
          · rw [if_neg y, sI_nb y]; exact a10 x hx
        · rw [sI_na (by decide)]; exact a11 x hx
        · rw [sI_na (by decide), sI_na (by decide)]; exact a12 x hx
        · rw [sI_ne (by decide)]; exact a13
        · rw [sI_ne (by decide)]; exact a14 x hx
      · have ff := numF_f q3
        have e13 := (e12.fl e3).px
        exact bN' (e13.ne (by omega)) (hn f q h3 (bdR_eI q3 r2) (by omega) e13)
    · have e12 := (e1.fl e2).px
      have n5 := e12.ne (by omega)
      exact m_number_f (d := d + 3) (hw1.eq e2.1) n5 ⟨_, rfl, rfl, bN' n5 (hn f q h2 (bdR_eI z2 r) (by omega) e12)⟩
  · have n5 := e1.px.ne (by omega)
    have hw1 := hw.eq e1.1
    have E119 : h1.1 119 = h.1 119 := (e1.1.1 119 (by decide)).1
    exact m_oneOf_f (d := d + 2) (z := 1) hw1 (by decide) (by rw [E119]; exact lm.2.2.2.1) H6 n5 ⟨_, rfl, rfl, m_number_f (d := d + 3) hw1 n5 ⟨_, rfl, rfl, bN' n5 (hn f q h1 (bdR_eI z1 r) (by omega) e1.px)⟩⟩
/-- the model is told of a sky -/
theorem m_skyTold {kk : Nat} (hw : gWf h lk sp cd) (tw : TWf t n) (tp : TPm t h) (k : MTk t n (nx t n s) (nj t n s) h) (lm : LMp L h) (g : qG L.1) (hkk : kk < 4) (r : (qK L.1 = 10 ∧ out = .error (5, s)) ∨ (qK L.1 ≠ 10 ∧ skR t n L (s, u) kk out))
    (hy : ∀ L' p' h', out = .ok (L', p') → MPs h h' → MTk t n p'.1 p'.2 h' → LMp L' h' → Q none h')
    (hn : ∀ f q h', out = .error (f, q) → 1 ≤ f ∧ f ≤ 5 → MPf f q h h' → Q none h') : gC l G (d + 5) MX12_skyTold [.ref 82, .int (nI kk), .int (nI s)] h Q := by
  have K10 := g.2.2.2.1
  refine eX12_skyTold hw (fun p e s9 m args below meth cc => ?_)
  have FL : ∀ h', gWf h' lk sp cd → h'.1 82 5 ≠ 0 → h'.1 119 4 = nI (qK L.1) → ∀ v : Int32, Q none h' → ∀ r j, j + r = qK L.1 → gg p l e s9 m args below meth cc G (d + 5) MX12_skyTold Q 31 [some (.ref 82), some (.int (nI kk)), some (.int (nI s)), some (.int v), some (.int (nI j))] [] h' := by
    intro h' hw' h5 h4 v hq r
    induction r with
    | zero =>
      intro j hj
      refine wX12_skyTold_31 hw'.1 hw'.2.1 hw'.2.2.1 (bY ?_ (bN h5 hq))
      rw [h4]
      exact nI_le (by omega) (by omega)
    | succ r ih =>
      intro j hj
      refine wX12_skyTold_31 hw'.1 hw'.2.1 hw'.2.2.1 (bN ?_ (bN' h5 ?_))
      · rw [h4]
        exact nI_ge (by omega) (by omega)
      · rw [nI_1]
        exact ih (j + 1) (by omega)
  refine m_isFull (d := d + 3) (k := 4) (m := 10) hw k.2.2.2.1 (by decide) lm.2.2.2.2.1 (by omega) (by decide) (fun h1 v6 e1 => ⟨_, rfl, e1.1.2, bN (by decide) (hn 5 s h1 ?_ (by decide) e1.px)⟩) (fun v6 => ⟨_, rfl, rfl, bY rfl ?_⟩)
  · rcases r with r | r
    · exact r.2
    · exact absurd v6 r.1
  · have r : skR t n L (s, u) kk out := by
      rcases r with r | r
      · exact absurd r.1 v6
      · exact r.2
    refine m_asks (d := d + 1) (i := 4) (w := 89) hw tw tp k (by decide) rfl (by decide) (tp.2.1 4 (by decide)) (fun p2 h2 q2 e2 k2 => ⟨rfl, e2.1.2, ?_⟩) (fun f q h2 q2 e2 => ⟨rfl, e2.1.2, ?_⟩)
    · have r1 := bdR_oI q2 r
      have hw2 := hw.eq e2.1
      refine m_number (d := d + 3) (lo := 0) (hi := 100) hw2 tw (tp.ml e2.1) k2 (by decide) (by decide) (fun v3 p3 h3 q3 e3 k3 a10' => ⟨_, rfl, e3.1.2, ?_⟩) (fun f q h3 x q3 e3 => ⟨_, rfl, e3.1.2, ?_⟩)
      · have r2 := bdR_oI q3 r1
        have hw3 := hw2.eq e3.1
        have e23 := e2.tr e3
        have v100 := (numF_b q3).2.1
        have lm3 := lm.ml e23
        obtain ⟨a1, a2, a3, a4, a5, a6, a7, a8, a9, a10, a11, a12, a13, a14⟩ := lm3
        have H : ∀ r j, j + r = qK L.1 → (∀ w, w < j → qsh L.1 w ≠ v3) → gg p l e s9 m args below meth cc G (d + 5) MX12_skyTold Q 31 [some (.ref 82), some (.int (nI kk)), some (.int (nI s)), some (.int (nI v3)), some (.int (nI j))] [] h3 := by
          intro r
          induction r with
          | zero =>
            intro j hj no
            have : j = qK L.1 := by omega
            subst this
            have ro : out = .ok ((skyA L.1 v3 kk, L.2), p3) := by
              rcases r2 with ⟨⟨w, hw9, ew⟩, _⟩ | ⟨_, ro⟩
              · exact absurd ew (no w hw9)
              · exact ro
            have K9 : qK L.1 < 10 := by omega
            have e2K : 2 * nI (qK L.1) = nI (2 * qK L.1) := by rw [lit 2, pk_mul]
            refine wX12_skyTold_31 hw3.1 hw3.2.1 hw3.2.2.1 ?_
            rw [a5, e2K, nI_clamp (by omega), nI_1, nI_clamp (by omega), nI_1]
            refine bY (nI_le (Nat.le_refl _) (by omega)) (bY k3.2.2.2.1 ⟨vp_in_nI (by omega) (by decide), vp_in_nI (by omega) (by decide), hy _ _ _ ro ?_ (k3.c2 ?_) ?_⟩)
            · exact ((e23.px.si (by decide) (by decide) (by show 2 * qK L.1 < 20; omega)).si (by decide) (by decide) (by show 2 * qK L.1 + 1 < 20; omega)).si (by decide) (by decide) (by decide)
            · rw [sI_na (by decide), sI_na (by decide), sI_na (by decide)]
            · refine ⟨?_, ?_, ?_, ?_, sI_s _ _ _ _, ?_, fun x hx => ?_, fun x hx => ?_, fun x hx => ?_, fun x hx => ?_, fun x hx => ?_, fun x hx => ?_, ?_, fun x hx => ?_⟩
              · rw [sI_nb (by decide), sI_ne (by decide), sI_ne (by decide)]; exact a1
              · rw [sI_nb (by decide), sI_ne (by decide), sI_ne (by decide)]; exact a2
              · rw [sI_nb (by decide), sI_ne (by decide), sI_ne (by decide)]; exact a3
              · rw [sI_nb (by decide), sI_ne (by decide), sI_ne (by decide)]; exact a4
              · rw [sI_ne (by decide), sI_ne (by decide), sI_ne (by decide)]; exact a6
              · rw [sI_ne (by decide), sI_ne (by decide), sI_ne (by decide)]; exact a7 x hx
              · rw [sI_na (by decide), sI_na (by decide), sI_na (by decide)]; exact a8 x hx
              · rw [sI_na (by decide), sI_na (by decide), sI_na (by decide)]; exact a9 x hx
              · rw [sI_ne (by decide), sI_ne (by decide), sI_ne (by decide)]; exact a10 x hx
              · have hx : x < qK L.1 + 1 := hx
                show _ = nI (qsh (skyA L.1 v3 kk) x) ∧ _ = nI (qsq (skyA L.1 v3 kk) x)
                rw [skyA_h, skyA_q, sI_na (by decide)]
                by_cases y : x = qK L.1
                · subst y
                  rw [if_pos rfl, if_pos rfl, sI_s, sI_nb (by omega), sI_s]
                  exact ⟨rfl, rfl⟩
                · rw [if_neg y, if_neg y, sI_nb (by omega), sI_nb (by omega), sI_nb (by omega), sI_nb (by omega)]
                  exact a11 x (by omega)
              · rw [sI_na (by decide), sI_na (by decide), sI_na (by decide), sI_na (by decide), sI_na (by decide), sI_na (by decide)]; exact a12 x hx
              · rw [sI_ne (by decide), sI_ne (by decide), sI_ne (by decide)]; exact a13
              · rw [sI_ne (by decide), sI_ne (by decide), sI_ne (by decide)]; exact a14 x hx
          | succ r ih =>
            intro j hj no
            have e2j : 2 * nI j = nI (2 * j) := by rw [lit 2, pk_mul]
            have bj := (g.2.2.2.2.2.2.2.2.2.2.1 j (by omega)).1
            refine wX12_skyTold_31 hw3.1 hw3.2.1 hw3.2.2.1 ?_
            have ej : nI j + 1 = nI (j + 1) := by rw [nI_1]
            rw [a5, e2j, nI_clamp (n := 2 * j) (by omega), (a11 j (by omega)).1, nI_eq (by omega) (by omega), ej]
            refine bN (nI_ge (by omega) (by omega)) (bY' k3.2.2.2.1 ⟨vp_in_nI (by omega) (by decide), fun y => ih (j + 1) (by omega) (fun w hw9 => ?_), fun y => ?_⟩)
            · by_cases x : w = j
              · rw [x]; exact y
              · exact no w (by omega)
            · rw [a10']
              have ro : out = .error (2, p2.1) := by
                rcases r2 with ⟨_, ro⟩ | ⟨no2, _⟩
                · exact ro
                · exact absurd y (no2 j (by omega))
              refine m_fail (f := 2) hw3 k3.2.2.2.1 (fun h4 e4 => ⟨rfl, e4.1.2, ?_⟩)
              have e24 := (e23.fl e4).px
              exact FL h4 (hw3.eq e4.1) (e24.ne (by decide)) (by rw [(e4.1.1 119 (by decide)).1]; exact a5) _ (hn 2 _ h4 ro (by decide) e24) r (j + 1) (by omega)
        exact H (qK L.1) 0 (by omega) (fun _ y => absurd y (Nat.not_lt_zero _))
      · have ff := numF_f q3
        have e23 := (e2.fl e3).px
        exact FL h3 (hw2.eq e3.1) (e23.ne (by omega)) (by rw [(e3.1.1 119 (by decide)).1, (e2.1.1 119 (by decide)).1]; exact lm.2.2.2.2.1) _ (hn f q h3 (bdR_eI q3 r1) (by omega) e23) (qK L.1) 0 (by omega)
    · have ff := wdF_c q2
      have n5 := e2.px.ne (by omega)
      have hw2 := hw.eq e2.1
      exact m_number_f (d := d + 3) hw2 n5 ⟨_, rfl, rfl, FL h2 hw2 n5 (by rw [(e2.1.1 119 (by decide)).1]; exact lm.2.2.2.2.1) _ (hn f q h2 (bdR_eI q2 r) (by omega) e2.px) (qK L.1) 0 (by omega)⟩
end ML2
