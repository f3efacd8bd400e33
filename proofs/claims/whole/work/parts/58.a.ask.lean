section AM9
variable {l : Launch} {G : gG} {d : Nat} {Q : Option Value → gH → Prop} {h h0 h1 h2 : gH} {lk sp : Nat} {cd : Option Nat} {t : Nat → Nat} {n s κ b f q : Nat} {A F : qT} {out : qOut}
/-- the model's frame while it is asked -/
def MA (h h' : gH) : Prop := gEq [82, 131, 132, 164, 165, 166] h h' ∧ (∀ j, j ∉ [1, 2, 3, 4, 5, 6, 7, 8, 10, 45, 66, 83, 106, 108, 109, 110, 112, 114] → h'.1 82 j = h.1 82 j) ∧ ∀ j, j ≠ 113 → h'.2.1 82 j = h.2.1 82 j
theorem MA.rf : MA h h := ⟨gEq.rf _ _, fun _ _ => rfl, fun _ _ => rfl⟩
theorem MA.tr (a : MA h h1) (e : MA h1 h2) : MA h h2 := ⟨(a.1.tr e.1).mono (fun x hx => by rcases List.mem_append.mp hx with z | z <;> exact z), fun j hj => (e.2.1 j hj).trans (a.2.1 j hj), fun j hj => (e.2.2 j hj).trans (a.2.2 j hj)⟩
theorem MA.s82 {j : Nat} {x : Int32} (e : MA h h1) (hj : j ∈ [1, 2, 3, 4, 5, 6, 7, 8, 10, 45, 66, 83, 106, 108, 109, 110, 112, 114]) : MA h (sI h1 82 j x) := ⟨gE1 (by decide) e.1, fun i hi => by rw [sI_nb (fun z => hi (by rw [z]; exact hj))]; exact e.2.1 i hi, e.2.2⟩
theorem MA.sl {x : Int64} (e : MA h h1) : MA h (sL h1 82 113 x) := ⟨(e.1.tr (gEq.sL h1 82 113 x)).mono (fun x hx => by simp at hx ⊢; omega), e.2.1, fun j hj => by rw [sL_nb hj]; exact e.2.2 j hj⟩
theorem MQx.ma {tb : Nat} (e : MQx tb h h1) : MA h h1 := ⟨e.1.mono (fun x hx => by simp at hx ⊢; omega), fun j hj => e.2.1 j (fun z => hj (by simp at z ⊢; omega)), fun j _ => by rw [e.2.2.1]⟩
theorem MLx.ma (e : MLx h h1) : MA h h1 := ⟨e.1.mono (fun x hx => by simp at hx ⊢; omega), fun j hj => e.2.1 j (fun z => hj (by simp at z ⊢; omega)), fun j _ => by rw [e.2.2]⟩
theorem MFl.ma (e : MFl f q h h1) : MA h h1 := ⟨e.1.mono (fun x hx => by simp at hx ⊢; omega), fun j hj => e.2.1 j (fun z => hj (by simp at z ⊢; omega)), fun j _ => by rw [e.2.2.1]⟩
theorem MU.ma (e : MU h h1) : MA h h1 := ⟨e.1.mono (fun x hx => by simp at hx ⊢; omega), fun j hj => e.2.1 j (fun z => hj (by rw [z]; decide)) (fun z => hj (by rw [z]; decide)), fun j _ => by rw [e.2.2]⟩
theorem MA.tp (e : MA h h1) (tp : TPm t h) : TPm t h1 := ⟨fun i hi => by rw [(e.1.1 83 (by decide)).1]; exact tp.1 i hi, fun i hi j hj => by rw [(e.1.1 (85 + i) (by simp; omega)).1]; exact tp.2.1 i hi j hj, fun i hi j hj => by rw [(e.1.1 (143 + i) (by simp; omega)).1]; exact tp.2.2 i hi j hj⟩
theorem MA.km (e : MA h h1) (k : KM A F h) : KM A F h1 := k.eq e.1 (fun x hx => by simp at hx; omega) (e.2.1 58 (by decide))
theorem m_ask (hw : gWf h lk sp cd) (tw : TWf t n) (tp : TPm t h) (k : KM A F h) (hb : b < qB A) (h1n : h.1 82 1 = nI n) (r : QsR t n (skp t n 0, false) out) (gd : ∀ κ e, out = .ok (κ, e) → gdQ κ e ∧ e.length ≤ 1600)
    (hy : ∀ κ e h', κ < 6 → out = .ok (κ, e) → MA h h' → h'.1 82 1 = 0 → h'.1 82 7 = 0 → h'.1 82 8 = -1 → Q (some (.long (lI (anw κ (gq A F b (fun i => cv (e.getD i 0)) e.length) (qN A))))) h')
    (hn : ∀ f q h', out = .error (f, q) → MA h h' → h'.1 82 1 = 0 → h'.1 82 7 = nI f → h'.1 82 8 = nI q → Q (some (.long (-1000000000000000))) h') : gC l G (d + 9) MX12_ask [.ref 82, .int (nI b)] h Q := by
  have n16 := tw.1
  have g := k.g
  have ff := k.f
  have N48 := g.N48
  refine eX12_ask hw (fun p9 e9 s9 m9 args9 below9 meth9 cc9 => m_isBoat_y (d := d + 7) hw g k.l hb ⟨_, rfl, rfl, bN' (by decide) ?_⟩)
  rw [h1n]
  have K0 : MA h (sI (sI (sI (sI (sI (sI (sI (sI (sI (sI h 82 3 (nI n)) 82 1 0) 82 2 0) 82 4 (-1)) 82 5 0) 82 6 (-1)) 82 106 0) 82 108 0) 82 109 0) 82 110 0) := ((((((((((MA.rf (h := h)).s82 (by decide)).s82 (by decide)).s82 (by decide)).s82 (by decide)).s82 (by decide)).s82 (by decide)).s82 (by decide)).s82 (by decide)).s82 (by decide)).s82 (by decide)
  have x3 : (sI (sI (sI (sI (sI (sI (sI (sI (sI (sI h 82 3 (nI n)) 82 1 0) 82 2 0) 82 4 (-1)) 82 5 0) 82 6 (-1)) 82 106 0) 82 108 0) 82 109 0) 82 110 0).1 82 3 = nI n := by
    rw [sI_nb (by decide), sI_nb (by decide), sI_nb (by decide), sI_nb (by decide), sI_nb (by decide), sI_nb (by decide), sI_nb (by decide), sI_nb (by decide), sI_nb (by decide), sI_s]
  have x1 : (sI (sI (sI (sI (sI (sI (sI (sI (sI (sI h 82 3 (nI n)) 82 1 0) 82 2 0) 82 4 (-1)) 82 5 0) 82 6 (-1)) 82 106 0) 82 108 0) 82 109 0) 82 110 0).1 82 1 = 0 := by
    rw [sI_nb (by decide), sI_nb (by decide), sI_nb (by decide), sI_nb (by decide), sI_nb (by decide), sI_nb (by decide), sI_nb (by decide), sI_nb (by decide), sI_s]
  have x2 : (sI (sI (sI (sI (sI (sI (sI (sI (sI (sI h 82 3 (nI n)) 82 1 0) 82 2 0) 82 4 (-1)) 82 5 0) 82 6 (-1)) 82 106 0) 82 108 0) 82 109 0) 82 110 0).1 82 2 = 0 := by
    rw [sI_nb (by decide), sI_nb (by decide), sI_nb (by decide), sI_nb (by decide), sI_nb (by decide), sI_nb (by decide), sI_nb (by decide), sI_s]
  have x4 : (sI (sI (sI (sI (sI (sI (sI (sI (sI (sI h 82 3 (nI n)) 82 1 0) 82 2 0) 82 4 (-1)) 82 5 0) 82 6 (-1)) 82 106 0) 82 108 0) 82 109 0) 82 110 0).1 82 4 = -1 := by
    rw [sI_nb (by decide), sI_nb (by decide), sI_nb (by decide), sI_nb (by decide), sI_nb (by decide), sI_nb (by decide), sI_s]
  have x5 : (sI (sI (sI (sI (sI (sI (sI (sI (sI (sI h 82 3 (nI n)) 82 1 0) 82 2 0) 82 4 (-1)) 82 5 0) 82 6 (-1)) 82 106 0) 82 108 0) 82 109 0) 82 110 0).1 82 5 = 0 := by
    rw [sI_nb (by decide), sI_nb (by decide), sI_nb (by decide), sI_nb (by decide), sI_nb (by decide), sI_s]
  have x6 : (sI (sI (sI (sI (sI (sI (sI (sI (sI (sI h 82 3 (nI n)) 82 1 0) 82 2 0) 82 4 (-1)) 82 5 0) 82 6 (-1)) 82 106 0) 82 108 0) 82 109 0) 82 110 0).1 82 6 = -1 := by
    rw [sI_nb (by decide), sI_nb (by decide), sI_nb (by decide), sI_nb (by decide), sI_s]
  have x106 : (sI (sI (sI (sI (sI (sI (sI (sI (sI (sI h 82 3 (nI n)) 82 1 0) 82 2 0) 82 4 (-1)) 82 5 0) 82 6 (-1)) 82 106 0) 82 108 0) 82 109 0) 82 110 0).1 82 106 = 0 := by
    rw [sI_nb (by decide), sI_nb (by decide), sI_nb (by decide), sI_s]
  have x108 : (sI (sI (sI (sI (sI (sI (sI (sI (sI (sI h 82 3 (nI n)) 82 1 0) 82 2 0) 82 4 (-1)) 82 5 0) 82 6 (-1)) 82 106 0) 82 108 0) 82 109 0) 82 110 0).1 82 108 = 0 := by
    rw [sI_nb (by decide), sI_nb (by decide), sI_s]
  have x109 : (sI (sI (sI (sI (sI (sI (sI (sI (sI (sI h 82 3 (nI n)) 82 1 0) 82 2 0) 82 4 (-1)) 82 5 0) 82 6 (-1)) 82 106 0) 82 108 0) 82 109 0) 82 110 0).1 82 109 = 0 := by
    rw [sI_nb (by decide), sI_s]
  generalize (sI (sI (sI (sI (sI (sI (sI (sI (sI (sI h 82 3 (nI n)) 82 1 0) 82 2 0) 82 4 (-1)) 82 5 0) 82 6 (-1)) 82 106 0) 82 108 0) 82 109 0) 82 110 0) = h0 at K0 x1 x2 x3 x4 x5 x6 x106 x108 x109 ⊢
  have hw0 := hw.eq K0.1
  have mt0 : MTk t n (skp t n 0) false h0 := ⟨skp_n (Nat.zero_le _), skp_s, x3, x5, 0, 0, Nat.zero_le _, rfl, Nat.zero_le _, x2, x4, by simp⟩
  -- the ends
  have L129F : ∀ f q h' (v2 : Int32), out = .error (f, q) → f ≠ 0 → f < 10 → MA h h' → h'.1 82 1 = 0 → h'.1 82 5 = nI f → h'.1 82 6 = nI q → gg p9 l e9 s9 m9 args9 below9 meth9 cc9 G (d + 9) MX12_ask Q 129 [some (.ref 82), some (.int (nI b)), some (.int v2), none] [] h' := fun f q h' v2 ro f0 f9 e' a1 a5 a6 => by
    have hw' := hw.eq e'.1
    have n5 : ¬ h'.1 82 5 = 0 := by rw [a5]; exact bad0 f0 f9
    refine wX12_ask_129 hw'.1 hw'.2.1 hw'.2.2.1 (bN n5 (hn f q _ ro ((e'.s82 (by decide)).s82 (by decide)) ?_ ?_ ?_))
    · rw [sI_nb (by decide), sI_nb (by decide)]; exact a1
    · rw [sI_nb (by decide), sI_s]; exact a5
    · rw [sI_s]; exact a6
  have L105F : ∀ f q h' (v2 : Int32), out = .error (f, q) → f ≠ 0 → f < 10 → MA h h' → h'.1 82 1 = 0 → h'.1 82 5 = nI f → h'.1 82 6 = nI q → gg p9 l e9 s9 m9 args9 below9 meth9 cc9 G (d + 9) MX12_ask Q 105 [some (.ref 82), some (.int (nI b)), some (.int v2), none] [] h' := fun f q h' v2 ro f0 f9 e' a1 a5 a6 => by
    have hw' := hw.eq e'.1
    exact wX12_ask_105 hw'.1 hw'.2.1 hw'.2.2.1 (bN' (by rw [a5]; exact bad0 f0 f9) (L129F f q h' v2 ro f0 f9 e' a1 a5 a6))
  have L129 : ∀ κ e h', κ < 6 → out = .ok (κ, e) → MA h h' → h'.1 82 1 = 0 → h'.1 82 5 = 0 → h'.1 82 6 = -1 → h'.1 82 106 = nI e.length → (∀ i, i < e.length → h'.1 164 i = nI (qtd (e.getD i 0))) → gg p9 l e9 s9 m9 args9 below9 meth9 cc9 G (d + 9) MX12_ask Q 129 [some (.ref 82), some (.int (nI b)), some (.int (nI κ)), none] [] h' := fun κ e h' hκ ro e' a1 a5 a6 a106 acd => by
    have hw' := hw.eq e'.1
    obtain ⟨gdq, le⟩ := gd κ e ro
    obtain ⟨g1, g2, g3, g4, g5⟩ := gdQ_f (f := fun i => cv (e.getD i 0)) gdq (fun i => rfl)
    have gw : ∀ i, i < e.length → (fun i => cv (e.getD i 0)) i < 27 → (fun i => cv (e.getD i 0)) i ∈ [24, 25, 26, 16, 17, 18, 12, 3] := fun i hi z => aq_w (g3 _ (getD_m hi)) z
    have gm := gq_m (b := b) g ff hb gw g1 g2
    have hy := hy κ e
    -- the cells
    have L : ∀ r x h2, x + r = qN A → MA h h2 → h2.1 82 1 = 0 → h2.1 82 7 = 0 → h2.1 82 8 = -1 → h2.1 82 83 = nI b → h2.1 82 106 = nI e.length → (∀ i, i < e.length → h2.1 164 i = nI (qtd (e.getD i 0))) → h2.2.1 82 113 = lI (anw κ (gq A F b (fun i => cv (e.getD i 0)) e.length) x) → h2.1 82 114 = (if x = 0 then 1 else 0) → gg p9 l e9 s9 m9 args9 below9 meth9 cc9 G (d + 9) MX12_ask Q 184 [some (.ref 82), some (.int (nI b)), some (.int (nI κ)), some (.int (nI x))] [] h2 := by
      intro r
      induction r with
      | zero =>
        intro x h2 hx e2 c1 c7 c8 c83 c106 ccd c113 c114
        have hx' : x = qN A := hx
        subst hx'
        have hw2 := hw.eq e2.1
        refine wX12_ask_184 hw2.1 hw2.2.1 hw2.2.2.1 (m_cellMany (d := d + 7) hw2 (e2.km k).l ⟨_, rfl, rfl, bY (nI_le (Nat.le_refl _) (by omega)) ?_⟩)
        rw [c113]
        exact hy h2 hκ ro e2 c1 c7 c8
      | succ r ih =>
        intro x h2 hx e2 c1 c7 c8 c83 c106 ccd c113 c114
        have xN : x < qN A := by omega
        have hw2 := hw.eq e2.1
        have k2 := e2.km k
        have ej : nI x + 1 = nI (x + 1) := by rw [nI_1]
        refine wX12_ask_184 hw2.1 hw2.2.1 hw2.2.2.1 (m_cellMany (d := d + 7) hw2 k2.l ⟨_, rfl, rfl, bN (nI_ge xN (by omega)) (m_qTold (d := d + 1) (f := fun i => cv (e.getD i 0)) hw2 k2 hb xN c83 c106 ccd (fun i _ => rfl) g3 g1 g2 le (fun i hi => g4 _ _ i hi) (fun h3 e3 => ⟨_, rfl, e3.1.2, ?_⟩))⟩)
        have hw3 := hw2.eq e3.1
        have ev : evS (Vq A F b x) (Cq A F) (fun i => cv (e.getD i 0)) e.length 0 = gq A F b (fun i => cv (e.getD i 0)) e.length x := (if_pos xN).symm
        rw [ev]
        refine m_qTakes (gv := gq A F b (fun i => cv (e.getD i 0)) e.length) hw3 hκ gm (fun z => ?_) (by omega) (by rw [e3.2.2]; exact c113) (by rw [e3.2.1 114 (by decide) (by decide)]; exact c114) (fun h4 e4 f4 f114 fl f113 => ⟨rfl, e4.2, ?_⟩)
        · rw [← ev]; exact g5 z _ _
        rw [ej]
        have F4 : ∀ j, j ≠ 66 → j ≠ 112 → j ≠ 114 → h4.1 82 j = h2.1 82 j := fun j z1 z2 z3 => by rw [f4 j z3, e3.2.1 j z1 z2]
        have E4 : MA h h4 := e2.tr (e3.ma.tr ⟨e4.mono (fun x hx => by simp at hx ⊢; omega), fun j hj => f4 j (fun z => hj (by rw [z]; decide)), fl⟩)
        refine ih (x + 1) h4 (by omega) E4 ?_ ?_ ?_ ?_ ?_ (fun i hi => ?_) f113 (by rw [f114, if_neg (by omega)])
        · rw [F4 1 (by decide) (by decide) (by decide)]; exact c1
        · rw [F4 7 (by decide) (by decide) (by decide)]; exact c7
        · rw [F4 8 (by decide) (by decide) (by decide)]; exact c8
        · rw [F4 83 (by decide) (by decide) (by decide)]; exact c83
        · rw [F4 106 (by decide) (by decide) (by decide)]; exact c106
        · rw [(e4.1 164 (by decide)).1, (e3.1.1 164 (by decide)).1]; exact ccd i hi
    have st : ∀ v : Int64, v = lI (anw κ (gq A F b (fun i => cv (e.getD i 0)) e.length) 0) → gg p9 l e9 s9 m9 args9 below9 meth9 cc9 G (d + 9) MX12_ask Q 184 [some (.ref 82), some (.int (nI b)), some (.int (nI κ)), some (.int (nI 0))] [] (sI (sI (sL (sI (sI h' 82 7 0) 82 8 (-1)) 82 113 v) 82 114 1) 82 83 (nI b)) := fun v hv => by
      refine L (qN A) 0 _ (by omega) (((((e'.s82 (by decide)).s82 (by decide)).sl).s82 (by decide)).s82 (by decide)) ?_ ?_ ?_ (sI_s _ _ _ _) ?_ (fun i hi => ?_) ?_ ?_
      · rw [sI_nb (by decide), sI_nb (by decide)]
        show (sI (sI h' 82 7 0) 82 8 (-1)).1 82 1 = 0
        rw [sI_nb (by decide), sI_nb (by decide)]; exact a1
      · rw [sI_nb (by decide), sI_nb (by decide)]
        show (sI (sI h' 82 7 0) 82 8 (-1)).1 82 7 = 0
        rw [sI_nb (by decide), sI_s]
      · rw [sI_nb (by decide), sI_nb (by decide)]
        show (sI (sI h' 82 7 0) 82 8 (-1)).1 82 8 = -1
        exact sI_s _ _ _ _
      · rw [sI_nb (by decide), sI_nb (by decide)]
        show (sI (sI h' 82 7 0) 82 8 (-1)).1 82 106 = _
        rw [sI_nb (by decide), sI_nb (by decide)]; exact a106
      · rw [sI_ne (by decide), sI_ne (by decide)]
        show (sI (sI h' 82 7 0) 82 8 (-1)).1 164 i = _
        rw [sI_ne (by decide), sI_ne (by decide)]; exact acd i hi
      · show (sL (sI (sI h' 82 7 0) 82 8 (-1)) 82 113 v).2.1 82 113 = _
        rw [sL_s, hv]
      · rw [sI_nb (by decide), sI_s]; rfl
    refine wX12_ask_129 hw'.1 hw'.2.1 hw'.2.2.1 (bY a5 ?_)
    rw [a5, a6]
    have l2 : 2 ≤ nI κ ↔ 2 ≤ κ := nI_leI (a := 2) (by decide) (by omega)
    rw [l2]
    refine ⟨fun z => st 0 ?_, fun z => st (-1) ?_⟩
    · have : κ = 2 ∨ κ = 3 ∨ κ = 4 ∨ κ = 5 := by omega
      rcases this with y | y | y | y <;> subst y <;> rfl
    · have : κ = 0 ∨ κ = 1 := by omega
      rcases this with y | y <;> subst y <;> rfl
  have L105 : ∀ κ p' C h', κ < 6 → QsF t n κ (.ok (p', C)) out → MA h h' → h'.1 82 1 = 0 → h'.1 82 6 = -1 → MTk t n p'.1 p'.2 h' → h'.1 82 106 = nI C.length → (∀ i, i < C.length → h'.1 164 i = nI (qtd (C.getD i 0))) → gg p9 l e9 s9 m9 args9 below9 meth9 cc9 G (d + 9) MX12_ask Q 105 [some (.ref 82), some (.int (nI b)), some (.int (nI κ)), none] [] h' := fun κ p' C h' hκ rf e' a1 a6 mt a106 acd => by
    have hw' := hw.eq e'.1
    have a5 : h'.1 82 5 = 0 := mt.2.2.2.1
    refine wX12_ask_105 hw'.1 hw'.2.1 hw'.2.2.1 (bY' a5 (m_look (d := d + 8) hw' tw (e'.tp tp) mt (fun h2 e2 mt2 s2 => ⟨_, rfl, e2.1.2, ?_⟩)))
    have E2 : MA h h2 := e'.tr e2.ma
    have c1 : h2.1 82 1 = 0 := by rw [e2.2.1 1 (by decide)]; exact a1
    have c6 : h2.1 82 6 = -1 := by rw [e2.2.1 6 (by decide)]; exact a6
    by_cases sn : p'.1 < n
    · rw [if_pos sn]
      have ts := tw.2 p'.1
      have tk : tkk t n p'.1 p'.2 ≠ 1000 := by
        unfold tkk
        rw [if_neg (by omega)]
        split
        · split <;> omega
        · split
          · split <;> omega
          · omega
      have ro : out = .error (1, p'.1) := by
        rcases rf with y | y
        · exact absurd y.1 tk
        · exact y.2
      refine bN (i_nm1 (by omega)) ?_
      rw [s2]
      exact m_fail (f := 1) (hw.eq E2.1) mt2.2.2.2.1 (fun h3 e3 => ⟨rfl, e3.1.2, L129F 1 p'.1 h3 _ ro (by decide) (by decide) (E2.tr e3.ma) (by rw [e3.2.1 1 (by decide)]; exact c1) e3.2.2.2.1 e3.2.2.2.2⟩)
    · rw [if_neg sn]
      have tk : tkk t n p'.1 p'.2 = 1000 := by unfold tkk; rw [if_pos (by omega)]
      have ro : out = .ok (κ, C) := by
        rcases rf with y | y
        · exact y.2
        · exact absurd tk y.1
      exact bY rfl (L129 κ C h2 hκ ro E2 c1 mt2.2.2.2.1 c6 (by rw [e2.2.1 106 (by decide)]; exact a106) (fun i hi => by rw [(e2.1.1 164 (by decide)).1]; exact acd i hi))
  refine m_qKind (d := d + 4) hw0 tw (K0.tp tp) mt0 (fun κ h2 hκ wκ e2 k2 => ⟨_, rfl, e2.1.2, bY' k2.2.2.2.1 ?_⟩) (fun h2 no e2 => ⟨_, rfl, e2.1.2, bN' (by rw [e2.2.2.2.1]; decide) ?_⟩)
  · have E2 : MA h h2 := K0.tr e2.ma
    have hw2 := hw.eq E2.1
    have c1 : h2.1 82 1 = 0 := by rw [e2.2.1 1 (by decide)]; exact x1
    have c6 : h2.1 82 6 = -1 := by rw [e2.2.1 6 (by decide)]; exact x6
    have lt : skp t n 0 < n := tkk_n1 (t := t) (b := false) (by have : tkk t n (skp t n 0) false = 1001 := wκ.1; omega)
    have hg := nx_gt (t := t) lt
    have m2 : MTt t n true (nx t n (skp t n 0), nj t n (skp t n 0)) [] [] h2 := ⟨k2, by rw [e2.2.1 108 (by decide)]; exact x108, by rw [e2.2.1 109 (by decide)]; exact x109, by rw [e2.2.1 106 (by decide)]; exact x106, fun i hi => absurd hi (Nat.not_lt_zero _), by show 0 + 0 < nx t n (skp t n 0); omega, by decide, trivial, fun x hx => (by cases hx), trivial⟩
    have l3 : 3 ≤ nI κ ↔ 3 ≤ κ := nI_leI (a := 3) (by decide) (by omega)
    rw [l3]
    have rr : (κ < 3 ∧ ∃ o, Tst t n true (nx t n (skp t n 0), nj t n (skp t n 0)) [] [] o ∧ QsF t n κ o out) ∨ (3 ≤ κ ∧ ∃ o, Run t n knQ 0 true (nx t n (skp t n 0), nj t n (skp t n 0)) [] [] o ∧ QsF t n κ o out) := by
      rcases r with ⟨no, _⟩ | ⟨κ', h6, w', y⟩
      · exact absurd wκ (no κ hκ)
      · have := wat_u (by omega) (by omega) wκ.2 w'.2
        have : κ = κ' := by omega
        subst this
        exact y
    refine ⟨fun z => ?_, fun z => ?_⟩
    · obtain ⟨o, ⟨K, ru⟩, rf⟩ := rr.elim (fun y => absurd y.1 (by omega)) (fun y => y.2)
      refine wX12_ask_94 hw2.1 hw2.2.1 hw2.2.2.1 (bY' k2.2.2.2.1 (m_qSums (d := d + 2) hw2 tw (E2.tp tp) m2.qt ru (fun f q h3 eo f0 f9 e3 => ⟨rfl, e3.1.1.2, ?_⟩) (fun p' C' h3 eo e3 q3 => ⟨rfl, e3.1.1.2, ?_⟩)))
      · subst eo
        exact L105F f q h3 _ rf f0 f9 (E2.tr e3.1.ma) (by rw [e3.1.2.1 1 (by decide)]; exact c1) e3.2.1 e3.2.2.1
      · subst eo
        exact L105 κ p' C' h3 hκ rf (E2.tr e3.1.ma) (by rw [e3.1.2.1 1 (by decide)]; exact c1) (by rw [e3.2]; exact c6) q3.1 q3.2.2.2.1 q3.2.2.2.2.1
    · obtain ⟨o, ⟨K, ru⟩, rf⟩ := rr.elim (fun y => y.2) (fun y => absurd y.1 z)
      refine m_qTest (d := d) hw2 tw (E2.tp tp) m2 ru (fun f q h3 eo f0 f9 e3 => ⟨rfl, e3.1.1.2, ?_⟩) (fun p' C' h3 eo e3 q3 => ⟨rfl, e3.1.1.2, ?_⟩)
      · subst eo
        exact L105F f q h3 _ rf f0 f9 (E2.tr e3.1.ma) (by rw [e3.1.2.1 1 (by decide)]; exact c1) e3.2.1 e3.2.2
      · subst eo
        exact L105 κ p' C' h3 hκ rf (E2.tr e3.1.ma) (by rw [e3.1.2.1 1 (by decide)]; exact c1) (by rw [e3.2]; exact c6) q3.1 q3.2.2.2.1 q3.2.2.2.2.1
  · have ro : out = .error (1, skp t n 0) := by
      rcases r with ⟨_, y⟩ | ⟨κ', h6, w', _⟩
      · exact y
      · exact absurd w' (no κ' h6)
    have E2 : MA h h2 := K0.tr e2.ma
    have hw2 := hw.eq E2.1
    have c1 : h2.1 82 1 = 0 := by rw [e2.2.1 1 (by decide)]; exact x1
    exact wX12_ask_94 hw2.1 hw2.2.1 hw2.2.2.1 (bN' (by rw [e2.2.2.2.1]; decide) (L105F 1 _ h2 _ ro (by decide) (by decide) E2 c1 e2.2.2.2.1 e2.2.2.2.2))
end AM9
