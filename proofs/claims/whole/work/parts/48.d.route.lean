section RT2
variable {l : Launch} {G : gG} {d : Nat} {Q : Option Value → gH → Prop} {h h0 : gH} {lk sp : Nat} {cd : Option Nat} {A F : qT} {T n b c w t cell : Nat} {f m L : Nat → Nat}
theorem c_fill {w1 n1 : Nat} {v : Int32} (hw : gWf h lk sp cd) (hs : gSH[w1]? = some (20, n1)) (hn : n1 < 2 ^ 31) (hq : ∀ h', gEq [w1] h h' → (∀ i, i < n1 → h'.1 w1 i = v) → Q none h') : gC l G d MJ7_fill_53178 [.ref w1, .int v] h Q := by
  refine eJ7_fill_53178 hw hs (fun p e s m args below meth cc => ?_)
  suffices H : ∀ r i h', i + r = n1 → gEq [w1] h h' → (∀ j, j < i → h'.1 w1 j = v) → gg p l e s m args below meth cc G d MJ7_fill_53178 Q 5 [some (.ref w1), some (.int v), some (.int (nI i)), some (.int (Int32.ofNat n1))] [] h' from H n1 0 h (by omega) (gEq.rf _ _) (fun j hj => absurd hj (Nat.not_lt_zero _))
  intro r
  induction r with
  | zero =>
    intro i h' hi e1 v1
    have hwh := hw.eq e1
    exact wJ7_fill_53178_5 hwh.1 hwh.2.1 hwh.2.2.1 hs (bY (nI_le (a := n1) (b := i) (by omega) (by omega)) (hq h' e1 (fun j hj => v1 j (by omega))))
  | succ r ih =>
    intro i h' hi e1 v1
    have hwh := hw.eq e1
    refine wJ7_fill_53178_5 hwh.1 hwh.2.1 hwh.2.2.1 hs (bN (nI_ge (a := i) (b := n1) (by omega) (by omega)) ⟨vp_in_nI (by omega) hn, ?_⟩)
    rw [nI_clamp (by omega), nI_1]
    refine ih (i + 1) _ (by omega) (gE1 (List.mem_singleton.mpr rfl) e1) (fun j hj => ?_)
    by_cases e : j = i
    · subst e; exact sI_s _ _ _ _
    · rw [sI_nb e]; exact v1 j (by omega)
theorem c_isEasy {i : Nat} (hw : gWf h lk sp cd) (g : qG A) (k : LC A lk h) (hi : i < qN A) (ht : t ≤ 99) (hF : (fun c => fer A F b c 0) = f) (hf : ∀ c, c < qN A → h.1 50 c = nI (cfr A F b c)) (hy : esy A f t i → Q (some (.int 1)) h) (hn : ¬ esy A f t i → Q (some (.int 0)) h) : gC l G (d + 2) MX10_isEasy [.ref 49, .int (nI i), .int (nI t)] h Q := by
  have h48 := g.N48
  have fe : ∀ c, fer A F b c 0 = f c := fun c => by rw [← hF]
  have fl := fer_le (A := A) (F := F) (b := b) (c := i) (bo := 0) g
  refine eX10_isEasy hw (c_isWaterB hw g k (by omega) (fun y => ⟨_, rfl, rfl, bN (by decide) ⟨vp_in_nI (by omega) (by decide), ?_⟩⟩) (fun y => ⟨_, rfl, rfl, bY rfl (hn (fun q => y q.1))⟩))
  rw [nI_clamp (by omega), hf i hi, cfr_w y.2, nI_ltI (by omega) (by omega), fe]
  exact ⟨fun q => hn (fun q2 => by have := q2.2; omega), fun q => hy ⟨y, by omega⟩⟩
theorem c_stepsBeside (hw : gWf h lk sp cd) (g : qG A) (k : LC A lk h) (hc : c < qN A) (hm : ∀ i, i < qN A → h.1 51 i = nI (m i) ∧ m i ≤ 1000) (hq : Q (some (.int (nI (sbn A m c 4)))) h) : gC l G (d + 3) MX10_stepsBeside [.ref 49, .int (nI c)] h Q := by
  have h48 := g.N48
  refine eX10_stepsBeside hw (fun p e s m' args below meth cc => ?_)
  suffices H : ∀ r w, w + r = 4 → gg p l e s m' args below meth cc G (d + 2 + 1) MX10_stepsBeside Q 6 [some (.ref 49), some (.int (nI c)), some (.int (nI (sbn A m c w))), some (.int (nI w)), none] [] h from H 4 0 (by omega)
  intro r
  induction r with
  | zero =>
    intro w hw4
    have : w = 4 := by omega
    subst this
    exact wX10_stepsBeside_6 hw.1 hw.2.1 hw.2.2.1 (bY (Int32.le_refl _) hq)
  | succ r ih =>
    intro w hw4
    have i1 := ih (w + 1) (by omega)
    have hl := sbn_le (A := A) (m := m) (c := c) w
    refine wX10_stepsBeside_6 hw.1 hw.2.1 hw.2.2.1 (bN (nI_ge (b := 4) (by omega) (by decide)) (c_stepFrom hw g k hc (by omega) ⟨_, rfl, rfl, c_isCell_s hw g k (stp_lt g hc) (fun z => ⟨_, rfl, rfl, bY rfl ?_⟩) (fun x z => ⟨_, rfl, rfl, bN (by decide) ?_⟩)⟩))
    · have e : sbn A m c (w + 1) = sbn A m c w := by
        show (if stp A c w = 0 then _ else _) = _
        rw [if_pos z]
      rw [e] at i1
      rw [nI_1]
      exact i1
    · have hx := (stp_w g hc z).1
      have e : sbn A m c (w + 1) = min (m x) (sbn A m c w) := by
        show (if stp A c w = 0 then _ else _) = _
        rw [z, if_neg (by omega), Nat.add_sub_cancel]
      obtain ⟨v1, v2⟩ := hm x hx
      rw [z, i_s1, nI_clamp (by omega), v1, i_min (by omega) (by omega), nI_1, ← e]
      exact ⟨vp_in_nI (by omega) (by decide), i1⟩
theorem c_firstBeside {v : Int32} {P : Nat → Prop} (hw : gWf h lk sp cd) (g : qG A) (k : LC A lk h) (hc : c < qN A) (hP : ∀ n, qW A n → (h.1 51 n = v ↔ P n)) (hq : Q (some (.int (nI (fbs A P c 4) - 1))) h) : gC l G (d + 3) MX10_firstBeside [.ref 49, .int (nI c), .int v] h Q := by
  have h48 := g.N48
  refine eX10_firstBeside hw (fun p e s m' args below meth cc => ?_)
  suffices H : ∀ r w, w + r = 4 → gg p l e s m' args below meth cc G (d + 2 + 1) MX10_firstBeside Q 5 [some (.ref 49), some (.int (nI c)), some (.int v), some (.int (nI (fbs A P c w) - 1)), some (.int (nI w)), none] [] h from H 4 0 (by omega)
  intro r
  induction r with
  | zero =>
    intro w hw4
    have : w = 4 := by omega
    subst this
    exact wX10_firstBeside_5 hw.1 hw.2.1 hw.2.2.1 (bY (Int32.le_refl _) hq)
  | succ r ih =>
    intro w hw4
    have i1 := ih (w + 1) (by omega)
    have hl := fbs_lt (P := P) g hc (w := w) (by omega)
    have take : (stp A c w ≠ 0 ∧ P (stp A c w - 1) ∧ (fbs A P c w = 0 ∨ stp A c w < fbs A P c w)) → fbs A P c (w + 1) = stp A c w := fun q => if_pos q
    have stay : ¬ (stp A c w ≠ 0 ∧ P (stp A c w - 1) ∧ (fbs A P c w = 0 ∨ stp A c w < fbs A P c w)) → fbs A P c (w + 1) = fbs A P c w := fun q => if_neg q
    refine wX10_firstBeside_5 hw.1 hw.2.1 hw.2.2.1 (bN (nI_ge (b := 4) (by omega) (by decide)) (c_stepFrom hw g k hc (by omega) ⟨_, rfl, rfl, c_isCell_s hw g k (stp_lt g hc) (fun z => ⟨_, rfl, rfl, bY rfl ?_⟩) (fun x z => ⟨_, rfl, rfl, bN (by decide) ?_⟩)⟩))
    · rw [stay (fun q => q.1 z)] at i1
      rw [nI_1]
      exact i1
    · have hxw := stp_w g hc z
      have hx := hxw.1
      rw [z, Nat.add_sub_cancel] at take stay
      have z0 : nI (fbs A P c w) - 1 = -1 ↔ fbs A P c w = 0 := by rw [← i_m1, i_eq1 (by omega) (by decide)]
      rw [z, i_s1, nI_clamp (by omega), hP x hxw, nI_1, z0]
      refine ⟨vp_in_nI (by omega) (by decide), fun q => ?_, fun q => ⟨fun q2 => ?_, fun q2 => ?_⟩⟩
      · rw [stay (fun q2 => q q2.2.1)] at i1; exact i1
      · rw [take ⟨by omega, q, Or.inl q2⟩, i_s1] at i1; exact i1
      · have zl : nI (fbs A P c w) - 1 ≤ nI x ↔ fbs A P c w ≤ x + 1 := by
          rw [show nI (fbs A P c w) - 1 = nI (fbs A P c w - 1) from pk_sub (b := 1) (by omega), nI_leI (by omega) (by omega)]
          omega
        rw [zl]
        refine ⟨fun q3 => ?_, fun q3 => ?_⟩
        · rw [stay (fun q4 => by have := q4.2.2; omega)] at i1; exact i1
        · rw [take ⟨by omega, q, Or.inr (by omega)⟩, i_s1] at i1; exact i1
theorem c_markStepsTo (hw : gWf h lk sp cd) (g : qG A) (k : LC A lk h) (hc : qW A cell) (ht : t ≤ 99) (hF : (fun c => fer A F b c 0) = f) (hf : ∀ c, c < qN A → h.1 50 c = nI (cfr A F b c)) (hq : ∀ h' m, gEq [51] h h' → (∀ i, i < qN A → h'.1 51 i = nI (m i) ∧ m i ≤ 1000) → MkF A f t cell m → Q none h') : gC l G (d + 4) MX10_markStepsTo [.ref 49, .int (nI cell), .int (nI t)] h Q := by
  have h48 := g.N48
  have hc1 := hc.1
  have kk : ∀ {h'}, gEq [51] h h' → LC A lk h' := fun e => k.eq hw e (fun x hx => by simp at hx; omega)
  have ff : ∀ {h'}, gEq [51] h h' → ∀ c, c < qN A → h'.1 50 c = nI (cfr A F b c) := fun e c hc => by rw [(e.1 50 (by decide)).1]; exact hf c hc
  refine eX10_markStepsTo hw (fun p e s m' args below meth cc => c_fill hw (n1 := 48) rfl (by decide) (fun h1 e1 v1 => ⟨rfl, e1.2, c_isEasy (hw.eq e1) g (kk e1) hc.1 ht hF (ff e1) (fun he => ⟨_, rfl, rfl, bN' (by decide) ⟨vp_in_nI (by omega) (by decide), ?_⟩⟩) (fun he => ⟨_, rfl, rfl, bY' rfl (hq h1 (fun _ => 1000) e1 (fun i hi => ⟨v1 i (by omega), Nat.le_refl _⟩) (MkF.none g he hc))⟩)⟩))
  rw [nI_clamp (by omega)]
  suffices H : ∀ r i m fl h', i + r = 48 → gEq [51] h h' → (∀ i, i < qN A → h'.1 51 i = nI (m i)) → MkI A f t cell i 0 m → (fl = 0 → MkF A f t cell m) → gg p l e s m' args below meth cc G (d + 3 + 1) MX10_markStepsTo Q 32 [some (.ref 49), some (.int (nI cell)), some (.int (nI t)), some (.int fl), some (.int (nI i)), none, none] [] h' from
    H 48 0 (upn (fun _ => 1000) cell 0) 1 _ (by omega) (gE1 (by decide) e1) (fun i hi => by
      by_cases e : i = cell
      · subst e; rw [sI_s, upn_s]; rfl
      · rw [sI_nb e, upn_n e]; exact v1 i (by omega)) (MkI.zero g he) (fun q => absurd q (by decide))
  intro r
  induction r with
  | zero =>
    intro i m fl h' hi e2 v2 I2 f2
    have : i = 48 := by omega
    subst this
    have hwh := hw.eq e2
    exact wX10_markStepsTo_32 hwh.1 hwh.2.1 hwh.2.2.1 (bY (Int32.le_refl _) (hq h' m e2 (fun i hi => ⟨v2 i hi, I2.1 i hi⟩) (I2.done g hc.1)))
  | succ r ih =>
    intro i m fl h' hi e2 v2 I2 f2
    have hwh := hw.eq e2
    refine wX10_markStepsTo_32 hwh.1 hwh.2.1 hwh.2.2.1 (bN (nI_ge (b := 48) (by omega) (by decide)) ⟨fun q => hq h' m e2 (fun i hi => ⟨v2 i hi, I2.1 i hi⟩) (f2 q), fun _ => ?_⟩)
    suffices H : ∀ r' j m fl h', j + r' = qN A → gEq [51] h h' → (∀ i, i < qN A → h'.1 51 i = nI (m i)) → MkI A f t cell i j m → (fl = 0 → ∀ i, i < j → esy A f t i → m i ≤ sbn A m i 4 + 1) → gg p l e s m' args below meth cc G (d + 3 + 1) MX10_markStepsTo Q 48 [some (.ref 49), some (.int (nI cell)), some (.int (nI t)), some (.int fl), some (.int (nI i)), some (.int (nI j)), none] [] h' from
      H (qN A) 0 m 0 h' (by omega) e2 v2 I2 (fun _ j hj => absurd hj (Nat.not_lt_zero _))
    clear e2 v2 I2 f2 hwh
    intro r'
    induction r' with
    | zero =>
      intro j m fl h' hj e2 v2 I2 f2
      have : j = qN A := by omega
      subst this
      have hwh := hw.eq e2
      refine wX10_markStepsTo_48 hwh.1 hwh.2.1 hwh.2.2.1 (c_cells hwh g (kk e2) ⟨_, rfl, rfl, bY (Int32.le_refl _) ?_⟩)
      rw [nI_1]
      exact ih (i + 1) m fl h' (by omega) e2 v2 I2.next (fun q => I2.fix g (f2 q))
    | succ r' ih' =>
      intro j m fl h' hj e2 v2 I2 f2
      have hwh := hw.eq e2
      have hmj := I2.1 j (by omega)
      refine wX10_markStepsTo_48 hwh.1 hwh.2.1 hwh.2.2.1 (c_cells hwh g (kk e2) ⟨_, rfl, rfl, bN (nI_ge (by omega) (by omega)) (c_isEasy hwh g (kk e2) (by omega) ht hF (ff e2) (fun he => ⟨_, rfl, rfl, bN (by decide) (c_stepsBeside (m := m) hwh g (kk e2) (by omega) (fun i hi => ⟨v2 i hi, I2.1 i hi⟩) ⟨_, rfl, rfl, vp_in_nI (by omega) (by decide), ?_⟩)⟩) (fun he => ⟨_, rfl, rfl, bY rfl ⟨vp_in_nI (by omega) (by decide), ?_⟩⟩))⟩)
      · have hs := sbn_le (A := A) (m := m) (c := j) 4
        have I3 := I2.step g (by omega) he
        rw [nI_clamp (by omega), v2 j (by omega), nI_1, nI_1, nI_leI (by omega) (by omega)]
        refine ⟨fun q => ?_, fun q => ⟨vp_in_nI (by omega) (by decide), ?_⟩⟩
        · rw [Nat.min_eq_left q, upn_self] at I3
          refine ih' (j + 1) m fl h' (by omega) e2 v2 I3 (fun z i hi he' => ?_)
          by_cases e : i = j
          · subst e; exact q
          · exact f2 z i (by omega) he'
        · rw [Nat.min_eq_right (by omega)] at I3
          refine ih' (j + 1) _ 1 _ (by omega) (gE1 (by decide) e2) (fun i hi => ?_) I3 (fun z => absurd z (by decide))
          by_cases e : i = j
          · subst e; rw [sI_s, upn_s]
          · rw [sI_nb e, upn_n e]; exact v2 i hi
      · rw [nI_clamp (by omega), v2 j (by omega), nI_1]
        refine bY (nI_le (b := 1000) (by omega) (by decide)) (ih' (j + 1) m fl h' (by omega) e2 v2 (I2.skip he) (fun z i hi he' => ?_))
        by_cases e : i = j
        · subst e; exact absurd he' he
        · exact f2 z i (by omega) he'
theorem c_findRoute (hw : gWf h lk sp cd) (k : KC A F T lk h) (hb : b < qB A) (hc : qW A cell) (hF : (fun c => fer A F b c 0) = f)
    (hq1 : ∀ h' D, gEq [45, 46, 48, 50, 51, 52] h h' → dsP A f (ft F b) D (fc F b) cell → (∀ i, i < D → h'.1 52 i = nI (rtn A f (ft F b) cell D (fc F b) (i + 1))) → Q (some (.int (nI D))) h')
    (hq0 : ∀ h', gEq [45, 46, 48, 50, 51, 52] h h' → (∀ k, ¬ rch A f (ft F b) k (fc F b) cell) → Q (some (.int (-1))) h') : gC l G (d + 6) MX10_findRoute [.ref 49, .int (nI b), .int (nI cell)] h Q := by
  have h48 := k.g.N48
  have g := k.g
  have hc1 := hc.1
  obtain ⟨c0, c4, t9, -, -⟩ := k.f.2.2.2.1 b hb
  refine eX10_findRoute hw (fun p e s m' args below meth cc => c_readFears hw k hb (fun h1 e1 v1 => ⟨rfl, e1.2, ?_⟩))
  have hw1 := hw.eq e1
  have k1 : KC A F T lk h1 := k.eq hw e1 (fun x hx => by simp at hx; omega)
  have m1 : gEq [45, 46, 48, 50, 51, 52] h h1 := e1.mono (fun x hx => by simp at hx ⊢; omega)
  refine c_cellOf hw1 k1 hb ⟨_, rfl, rfl, c_isCell_y hw1 g k1.l c0 ⟨_, rfl, rfl, bN (by decide) (c_isCell_y hw1 g k1.l hc.1 ⟨_, rfl, rfl, bN' (by decide) ?_⟩)⟩⟩
  rw [nI_eq (by omega) (by omega)]
  refine ⟨fun ne => c_trustOf hw1 k1 hb ⟨_, rfl, rfl, c_markStepsTo hw1 g k1.l hc t9 hF v1 (fun h2 m e2 v2 M => ⟨rfl, e2.2, ?_⟩)⟩, fun eq => hq1 h1 0 m1 ⟨eq, fun j hj => absurd hj (Nat.not_lt_zero _)⟩ (fun i hi => absurd hi (Nat.not_lt_zero _))⟩
  have m2 : gEq [45, 46, 48, 50, 51, 52] h h2 := (m1.tr e2).mono (fun x hx => by simp at hx ⊢; omega)
  have hw2 := hw.eq m2
  have k2 : KC A F T lk h2 := k.eq hw m2 (fun x hx => by simp at hx; omega)
  have hs := sbn_le (A := A) (m := m) (c := fc F b) 4
  refine c_stepsBeside (m := m) hw2 g k2.l c0 v2 ⟨_, rfl, rfl, ?_⟩
  have z1 : nI (sbn A m (fc F b) 4) < 1000 ↔ sbn A m (fc F b) 4 < 1000 := nI_ltI (b := 1000) (by omega) (by decide)
  rw [z1]
  rcases Classical.em (∃ k, rch A f (ft F b) k (fc F b) cell) with ⟨k9, r9⟩ | no
  · obtain ⟨D, hD⟩ := dsP.of r9
    have D47 := hD.l47 g hc.1 c0
    obtain ⟨D', rfl⟩ : ∃ D', D = D' + 1 := by
      cases D with
      | zero => exact absurd hD.1 ne
      | succ D' => exact ⟨D', rfl⟩
    obtain ⟨x, x1, x2, x3⟩ := hD.next
    have mx := (M.iff x1.1 (v := D') (by omega)).mpr ⟨x2, x3⟩
    have sl := sbn_b (m := m) g c0 x1
    have se : sbn A m (fc F b) 4 = D' := by
      rcases sbn_ex (m := m) g c0 4 (Nat.le_refl _) with y | ⟨y, y1, y2⟩
      · omega
      · have hy := (M.iff y1.1 (v := m y) (by omega)).mp rfl
        rcases Nat.lt_or_ge (m y) D' with q | q
        · exact absurd (show rch A f (ft F b) (m y + 1) (fc F b) cell from Or.inr ⟨y, y1, hy.1, hy.2.1⟩) (hD.2 (m y + 1) (by omega))
        · omega
    rw [se]
    refine ⟨fun _ => ?_, fun q => absurd (show D' < 1000 by omega) q⟩
    suffices H : ∀ r i h', i + r = D' + 1 → gEq [45, 46, 48, 50, 51, 52] h h' → (∀ i, i < qN A → h'.1 51 i = nI (m i)) → (∀ j, j < i → h'.1 52 j = nI (rtn A f (ft F b) cell (D' + 1) (fc F b) (j + 1))) → gg p l e s m' args below meth cc G (d + 5 + 1) MX10_findRoute Q 97 [some (.ref 49), some (.int (nI b)), some (.int (nI cell)), some (.int (nI (fc F b))), some (.int (nI (ft F b))), some (.int (nI D')), some (.int (nI (rtn A f (ft F b) cell (D' + 1) (fc F b) i))), some (.int (nI i))] [] h' from H (D' + 1) 0 h2 (by omega) m2 (fun i hi => (v2 i hi).1) (fun j hj => absurd hj (Nat.not_lt_zero _))
    intro r
    induction r with
    | zero =>
      intro i h' hi m3 v3 w3
      have : i = D' + 1 := by omega
      subst this
      have hwh := hw.eq m3
      refine wX10_findRoute_97 hwh.1 hwh.2.1 hwh.2.2.1 (bY (nI_lt (by omega) (by omega)) ?_)
      rw [nI_1]
      exact hq1 h' (D' + 1) m3 hD w3
    | succ r ih =>
      intro i h' hi m3 v3 w3
      have hwh := hw.eq m3
      have k3 : KC A F T lk h' := k.eq hw m3 (fun x hx => by simp at hx; omega)
      obtain ⟨p1, p2⟩ := rtn_p g (f := f) (t := ft F b) ⟨c0, c4⟩ hD i (by omega)
      have p1' := p1.1
      have rf := rtn_f g (f := f) (t := ft F b) (k := i) ⟨c0, c4⟩ hD (by omega)
      refine wX10_findRoute_97 hwh.1 hwh.2.1 hwh.2.2.1 (bN (nI_nlt (by omega) (by omega)) (bN (nI_ge (b := 48) (by omega) (by decide)) ?_))
      rw [pk_sub (by omega)]
      refine c_firstBeside (P := fun n => f n ≤ ft F b ∧ dsP A f (ft F b) (D' + 1 - (i + 1)) n cell) hwh g k3.l p1.1 (fun n hn => ?_) ⟨_, rfl, rfl, vp_in_nI (by omega) (by decide), ?_⟩
      · have hl := (v2 n hn.1).2
        rw [v3 n hn.1, nI_eq (by omega) (by omega), M.iff hn (by omega), show D' - i = D' + 1 - (i + 1) by omega]
      · rw [rf, i_s1, nI_clamp (by omega), nI_1]
        refine ih (i + 1) _ (by omega) (gE1 (by decide) m3) (fun j hj => by rw [sI_ne (by decide)]; exact v3 j hj) (fun j hj => ?_)
        by_cases e : j = i
        · subst e; exact sI_s _ _ _ _
        · rw [sI_nb e]; exact w3 j (by omega)
  · have se : ¬ sbn A m (fc F b) 4 < 1000 := fun q => by
      rcases sbn_ex (m := m) g c0 4 (Nat.le_refl _) with y | ⟨y, y1, y2⟩
      · omega
      · have hy := (M.iff y1.1 (v := m y) (by omega)).mp rfl
        exact no ⟨m y + 1, Or.inr ⟨y, y1, hy.1, hy.2.1⟩⟩
    exact ⟨fun q => absurd q se, fun _ => hq0 h2 m2 (fun k q => no ⟨k, q⟩)⟩
end RT2
