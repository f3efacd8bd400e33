section RT3
variable {l : Launch} {G : gG} {d : Nat} {Q : Option Value → gH → Prop} {h h0 : gH} {lk sp : Nat} {cd : Option Nat} {A F : qT} {T n b c w t cell : Nat} {f m L : Nat → Nat}
theorem LM.eq6 (k : LM A h) {h' : gH} (e : gEq [136] h h') : LM A h' := k.cg (fun x hx => e.1 x (fun q => by simp at q; subst q; revert hx; decide)) (by rw [(e.1 82 (by decide)).1])
theorem lfr_t (hF : (fun c => fer A F b c 0) = f) (ht : t < 1000000) : ¬ t < lfr A F b n ↔ qkd A n ≠ 4 ∧ f n ≤ t := by
  have fe : fer A F b n 0 = f n := by rw [← hF]
  unfold lfr
  by_cases e : qkd A n = 4
  · rw [if_pos e]
    exact ⟨fun q => absurd ht q, fun q => absurd e q.1⟩
  · rw [if_neg e, fe]
    exact ⟨fun q => ⟨e, by omega⟩, fun q => by omega⟩
theorem m_laysSteps (hw : gWf h lk sp cd) (g : qG A) (k : LM A h) (hc : cell < qN A) (ht : t ≤ 99) (hF : (fun c => fer A F b c 0) = f) (hf : ∀ c, c < qN A → h.1 135 c = nI (lfr A F b c)) (hq : ∀ h' L, gEq [136] h h' → (∀ c, c < qN A → h'.1 136 c = nI (L c)) → LsF A f t cell L → Q none h') : gC l G (d + 3) MX12_laysSteps [.ref 82, .int (nI cell), .int (nI t)] h Q := by
  have h48 := g.N48
  have ff : ∀ {h'}, gEq [136] h h' → ∀ c, c < qN A → h'.1 135 c = nI (lfr A F b c) := fun e c hc => by rw [(e.1 135 (by decide)).1]; exact hf c hc
  refine eX12_laysSteps hw (fun p e s m' args below meth cc => ?_)
  have H36 : ∀ M L fl h', gEq [136] h h' → (∀ c, c < qN A → h'.1 136 c = nI (L c)) → LsI A f t cell L → (fl = 0 → LsF A f t cell L) → (¬ fl = 0 → smn L (qN A) < M) → gg p l e s m' args below meth cc G (d + 2 + 1) MX12_laysSteps Q 36 [some (.ref 82), some (.int (nI cell)), some (.int (nI t)), some (.int fl), none, none, none] [] h' := by
    intro M
    induction M with
    | zero =>
      intro L fl h' e1 v1 I1 f0 f1
      have hwh := hw.eq e1
      exact wX12_laysSteps_36 hwh.1 hwh.2.1 hwh.2.2.1 ⟨fun q => hq h' L e1 v1 (f0 q), fun q => absurd (f1 q) (Nat.not_lt_zero _)⟩
    | succ M ih =>
      intro L fl h' e1 v1 I1 f0 f1
      have hwh := hw.eq e1
      refine wX12_laysSteps_36 hwh.1 hwh.2.1 hwh.2.2.1 ⟨fun q => hq h' L e1 v1 (f0 q), fun q => ?_⟩
      have f1 := f1 q
      suffices H : ∀ r c L fl h', c + r = qN A → gEq [136] h h' → (∀ c, c < qN A → h'.1 136 c = nI (L c)) → LsI A f t cell L → smn L (qN A) < M + 1 → (¬ fl = 0 → smn L (qN A) < M) → (fl = 0 → ∀ c', c' < c → ∀ n, bsd A c' n → f n ≤ t → L c' ≤ L n + 1) → gg p l e s m' args below meth cc G (d + 2 + 1) MX12_laysSteps Q 45 [some (.ref 82), some (.int (nI cell)), some (.int (nI t)), some (.int fl), some (.int (nI c)), none, none] [] h' from
        H (qN A) 0 L 0 h' (by omega) e1 v1 I1 f1 (fun z => absurd rfl z) (fun _ c' hc' => absurd hc' (Nat.not_lt_zero _))
      clear hwh e1 v1 I1 f0 f1 q
      intro r
      induction r with
      | zero =>
        intro c L fl h' hr e1 v1 I1 s1 s2 f0
        have hwh := hw.eq e1
        exact wX12_laysSteps_45 hwh.1 hwh.2.1 hwh.2.2.1 (m_cellMany hwh (k.eq6 e1) ⟨_, rfl, rfl, bY (nI_le (by omega) (by omega)) (ih L fl h' e1 v1 I1 (fun z => ⟨I1, fun c hc => f0 z c (by omega)⟩) s2)⟩)
      | succ r ihc =>
        intro c L fl h' hr e1 v1 I1 s1 s2 f0
        have hwh := hw.eq e1
        have hcN : c < qN A := by omega
        refine wX12_laysSteps_45 hwh.1 hwh.2.1 hwh.2.2.1 (m_cellMany hwh (k.eq6 e1) ⟨_, rfl, rfl, bN (nI_ge (by omega) (by omega)) ?_⟩)
        suffices H : ∀ r' w L fl h', w + r' = 4 → gEq [136] h h' → (∀ c, c < qN A → h'.1 136 c = nI (L c)) → LsI A f t cell L → smn L (qN A) < M + 1 → (¬ fl = 0 → smn L (qN A) < M) → (fl = 0 → ∀ c', c' < c → ∀ n, bsd A c' n → f n ≤ t → L c' ≤ L n + 1) → (fl = 0 → ∀ w', w' < w → ∀ n, stp A c w' = n + 1 → f n ≤ t → L c ≤ L n + 1) → gg p l e s m' args below meth cc G (d + 2 + 1) MX12_laysSteps Q 57 [some (.ref 82), some (.int (nI cell)), some (.int (nI t)), some (.int fl), some (.int (nI c)), some (.int (nI w)), none] [] h' from
          H 4 0 L fl h' (by omega) e1 v1 I1 s1 s2 f0 (fun _ w' hw' => absurd hw' (Nat.not_lt_zero _))
        clear hwh e1 v1 I1 f0 s1 s2
        intro r'
        induction r' with
        | zero =>
          intro w L fl h' hr' e1 v1 I1 s1 s2 f0 fw
          have : w = 4 := by omega
          subst this
          have hwh := hw.eq e1
          refine wX12_laysSteps_57 hwh.1 hwh.2.1 hwh.2.2.1 (bY (Int32.le_refl _) ?_)
          rw [nI_1]
          refine ihc (c + 1) L fl h' (by omega) e1 v1 I1 s1 s2 (fun z c' hc' n hn hfn => ?_)
          by_cases ec : c' = c
          · subst ec
            obtain ⟨w', w4, hw'⟩ := (bsd_iff g hcN).mp hn
            exact fw z w' w4 n hw' hfn
          · exact f0 z c' (by omega) n hn hfn
        | succ r' ihw =>
          intro w L fl h' hr' e1 v1 I1 s1 s2 f0 fw
          have hwh := hw.eq e1
          have hn := nbr_lt (w := w) g hcN
          have skip : (∀ n, stp A c w = n + 1 → f n ≤ t → L c ≤ L n + 1) → gg p l e s m' args below meth cc G (d + 2 + 1) MX12_laysSteps Q 57 [some (.ref 82), some (.int (nI cell)), some (.int (nI t)), some (.int fl), some (.int (nI c)), some (.int (nI (w + 1))), none] [] h' := fun q =>
            ihw (w + 1) L fl h' (by omega) e1 v1 I1 s1 s2 f0 (fun z w' hw' n hs hfn => by
              by_cases ew : w' = w
              · subst ew; exact q n hs hfn
              · exact fw z w' (by omega) n hs hfn)
          refine wX12_laysSteps_57 hwh.1 hwh.2.1 hwh.2.2.1 (bN (nI_ge (b := 4) (by omega) (by decide)) (m_beside hwh g (k.eq6 e1) hcN (by omega) ⟨_, rfl, rfl, ?_⟩))
          rw [← i_m1, i_eq1 (by omega) (by decide), nI_1]
          refine ⟨fun z => skip (fun n hs _ => ?_), fun z => ?_⟩
          · have := (wtn_s.mp hs).1
            omega
          obtain ⟨x, hx⟩ : ∃ x, nbr A c w = x + 1 := ⟨_, (Nat.succ_pred z).symm⟩
          have lx := I1.1 x (by omega)
          have lc := I1.1 c hcN
          have ll := lfr_le (F := F) (b := b) g x
          have lt := lfr_t (n := x) (t := t) hF (by omega)
          rw [hx, i_s1, nI_clamp (show x < 2 ^ 31 by omega), nI_clamp (show c < 2 ^ 31 by omega), ff e1 x (by omega), v1 x (by omega), v1 c hcN, nI_1, nI_ltI (by omega) (by omega), nI_ltI (by omega) (by omega)]
          refine ⟨vp_in_nI (by omega) (by decide), fun q => skip (fun n hs hfn => ?_), fun q => ⟨vp_in_nI (by omega) (by decide), vp_in_nI (by omega) (by decide), fun q2 => ⟨vp_in_nI (by omega) (by decide), vp_in_nI (by omega) (by decide), ?_⟩, fun q2 => skip (fun n hs hfn => ?_)⟩⟩
          · obtain ⟨s1, s2⟩ := wtn_s.mp hs
            have : n = x := by omega
            subst this
            exact absurd q (lt.mpr ⟨s2, hfn⟩)
          · obtain ⟨l1, l2⟩ := lt.mp q
            have hs : stp A c w = x + 1 := wtn_s.mpr ⟨hx, l1⟩
            have hb : bsd A c x := (bsd_iff g hcN).mpr ⟨w, by omega, hs⟩
            have hsm := smn_up (L := L) (c := c) (v := L x + 1) q2 (qN A) hcN
            refine ihw (w + 1) (upn L c (L x + 1)) 1 _ (by omega) (gE1 (by decide) e1) (fun c' hc' => ?_) (I1.up hcN hb l2 q2) (by omega) (fun _ => by omega) (fun z => absurd z (by decide)) (fun z => absurd z (by decide))
            by_cases ec : c' = c
            · subst ec; rw [sI_s, upn_s]
            · rw [sI_nb ec, upn_n ec]; exact v1 c' hc'
          · obtain ⟨s1, s2⟩ := wtn_s.mp hs
            have : n = x := by omega
            subst this
            omega
  suffices H : ∀ r c h', c + r = qN A → gEq [136] h h' → (∀ c', c' < c → h'.1 136 c' = nI (upn (fun _ => 1000000) cell 0 c')) → gg p l e s m' args below meth cc G (d + 2 + 1) MX12_laysSteps Q 2 [some (.ref 82), some (.int (nI cell)), some (.int (nI t)), some (.int (nI c)), none, none, none] [] h' from H (qN A) 0 h (by omega) (gEq.rf _ _) (fun c hc => absurd hc (Nat.not_lt_zero _))
  intro r
  induction r with
  | zero =>
    intro c h' hr e1 v1
    have hwh := hw.eq e1
    refine wX12_laysSteps_2 hwh.1 hwh.2.1 hwh.2.2.1 (m_cellMany hwh (k.eq6 e1) ⟨_, rfl, rfl, bY (nI_le (by omega) (by omega)) (H36 (smn (upn (fun _ => 1000000) cell 0) (qN A) + 1) (upn (fun _ => 1000000) cell 0) 1 h' e1 (fun c hc => v1 c (by omega)) ⟨fun c _ => ?_, upn_s, fun c hc q => ?_⟩ (fun z => absurd z (by decide)) (fun _ => by omega))⟩)
    · show (if c = cell then 0 else 1000000) ≤ 1000000
      split <;> omega
    · by_cases ec : c = cell
      · subst ec; rw [upn_s]; rfl
      · rw [upn_n ec] at q; omega
  | succ r ih =>
    intro c h' hr e1 v1
    have hwh := hw.eq e1
    refine wX12_laysSteps_2 hwh.1 hwh.2.1 hwh.2.2.1 (m_cellMany hwh (k.eq6 e1) ⟨_, rfl, rfl, bN (nI_ge (by omega) (by omega)) ?_⟩)
    rw [nI_eq (by omega) (by omega), nI_clamp (by omega), nI_1]
    refine ⟨fun q => ⟨vp_in_nI (by omega) (by decide), ih (c + 1) _ (by omega) (gE1 (by decide) e1) (fun c' hc' => ?_)⟩, fun q => ⟨vp_in_nI (by omega) (by decide), ih (c + 1) _ (by omega) (gE1 (by decide) e1) (fun c' hc' => ?_)⟩⟩
    · by_cases ec : c' = c
      · subst ec; rw [sI_s, upn_n q]; rfl
      · rw [sI_nb ec]; exact v1 c' (by omega)
    · by_cases ec : c' = c
      · subst ec; subst q; rw [sI_s, upn_s]; rfl
      · rw [sI_nb ec]; exact v1 c' (by omega)
theorem m_nextStep {P : Nat → Prop} (hw : gWf h lk sp cd) (g : qG A) (k : LM A h) (hc : c < qN A) (ht : t ≤ 99) (hF : (fun c => fer A F b c 0) = f) (hf : ∀ c, c < qN A → h.1 135 c = nI (lfr A F b c)) (hL : ∀ c, c < qN A → h.1 136 c = nI (L c) ∧ L c ≤ 1000000) (hP : ∀ n, qW A n → ((f n ≤ t ∧ L n + 1 = L c) ↔ P n)) (hq : Q (some (.int (nI (fbs A P c 4) - 1))) h) : gC l G (d + 3) MX12_nextStep [.ref 82, .int (nI c), .int (nI t)] h Q := by
  have h48 := g.N48
  refine eX12_nextStep hw (fun p e s m' args below meth cc => ?_)
  suffices H : ∀ r w, w + r = 4 → gg p l e s m' args below meth cc G (d + 2 + 1) MX12_nextStep Q 5 [some (.ref 82), some (.int (nI c)), some (.int (nI t)), some (.int (nI (fbs A P c w) - 1)), some (.int (nI w)), none] [] h from H 4 0 (by omega)
  intro r
  induction r with
  | zero =>
    intro w hw4
    have : w = 4 := by omega
    subst this
    exact wX12_nextStep_5 hw.1 hw.2.1 hw.2.2.1 (bY (Int32.le_refl _) hq)
  | succ r ih =>
    intro w hw4
    have i1 := ih (w + 1) (by omega)
    have hl := fbs_lt (P := P) g hc (w := w) (by omega)
    have hn := nbr_lt (w := w) g hc
    have take : (stp A c w ≠ 0 ∧ P (stp A c w - 1) ∧ (fbs A P c w = 0 ∨ stp A c w < fbs A P c w)) → fbs A P c (w + 1) = stp A c w := fun q => if_pos q
    have stay : ¬ (stp A c w ≠ 0 ∧ P (stp A c w - 1) ∧ (fbs A P c w = 0 ∨ stp A c w < fbs A P c w)) → gg p l e s m' args below meth cc G (d + 2 + 1) MX12_nextStep Q 5 [some (.ref 82), some (.int (nI c)), some (.int (nI t)), some (.int (nI (fbs A P c w) - 1)), some (.int (nI (w + 1))), none] [] h := fun q => by
      rw [show fbs A P c (w + 1) = fbs A P c w from if_neg q] at i1
      exact i1
    refine wX12_nextStep_5 hw.1 hw.2.1 hw.2.2.1 (bN (nI_ge (b := 4) (by omega) (by decide)) (m_beside hw g k hc (by omega) ⟨_, rfl, rfl, ?_⟩))
    rw [← i_m1, i_eq1 (by omega) (by decide), nI_1]
    refine ⟨fun z => stay (fun q => q.1 ?_), fun z => ?_⟩
    · have := wtn_le (A := A) (y := nbr A c w)
      unfold stp
      omega
    obtain ⟨x, hx⟩ : ∃ x, nbr A c w = x + 1 := ⟨_, (Nat.succ_pred z).symm⟩
    obtain ⟨v1, lx⟩ := hL x (by omega)
    obtain ⟨v2, lc⟩ := hL c hc
    have ll := lfr_le (F := F) (b := b) g x
    have lt := lfr_t (n := x) (t := t) hF (by omega)
    rw [hx, i_s1, nI_clamp (show x < 2 ^ 31 by omega), nI_clamp (show c < 2 ^ 31 by omega), hf x (by omega), v1, v2, nI_1, nI_ltI (by omega) (by omega), nI_eq (by omega) (by omega), i_eq1 (by omega) (by decide)]
    refine ⟨vp_in_nI (by omega) (by decide), fun q => stay (fun q2 => ?_), fun q => ⟨vp_in_nI (by omega) (by decide), vp_in_nI (by omega) (by decide), ?_⟩⟩
    · obtain ⟨y, hy⟩ : ∃ y, stp A c w = y + 1 := ⟨stp A c w - 1, by have := q2.1; omega⟩
      obtain ⟨s1, s2⟩ := wtn_s.mp hy
      have : y = x := by omega
      subst this
      have q3 := q2.2.1
      rw [hy, Nat.add_sub_cancel] at q3
      exact absurd q (lt.mpr ⟨s2, ((hP y ⟨by omega, s2⟩).mpr q3).1⟩)
    · obtain ⟨l1, l2⟩ := lt.mp q
      have hs : stp A c w = x + 1 := wtn_s.mpr ⟨hx, l1⟩
      have hp := hP x ⟨by omega, l1⟩
      rw [hs, Nat.add_sub_cancel] at take stay
      refine ⟨fun q2 => ⟨fun q3 => ?_, fun q3 => ?_⟩, fun q2 => stay (fun q3 => q2 (hp.mpr q3.2.1).2)⟩
      · rw [take ⟨by omega, hp.mp ⟨l2, q2⟩, Or.inl q3⟩, i_s1] at i1
        exact i1
      · have zl : nI (fbs A P c w) - 1 ≤ nI x ↔ fbs A P c w ≤ x + 1 := by
          rw [show nI (fbs A P c w) - 1 = nI (fbs A P c w - 1) from pk_sub (b := 1) (by omega), nI_leI (by omega) (by omega)]
          omega
        rw [zl]
        refine ⟨fun q4 => stay (fun q5 => by have := q5.2.2; omega), fun q4 => ?_⟩
        rw [take ⟨by omega, hp.mp ⟨l2, q2⟩, Or.inr (by omega)⟩, i_s1] at i1
        exact i1
theorem m_routeL {p : Program} {e : Env} {s : State} {m' : MethodId} {args : Array Value} {below : List Frame} {meth : Method} {cc : Code} {D K : Nat} (hw : gWf h lk sp cd) (k : KM A F h) (hb : b < qB A) (hc : cell < qN A) (hF : (fun c => fer A F b c 0) = f) (hf : ∀ c, c < qN A → h.1 135 c = nI (lfr A F b c)) (hL : ∀ c, c < qN A → h.1 136 c = nI (L c)) (M : LsF A f (ft F b) cell L) (hD : dsP A f (ft F b) D (fc F b) cell) (hK : K < D)
    (hq : Q (some (.int (nI (rtn A f (ft F b) cell D (fc F b) (K + 1))))) h) :
    ∀ r i, i + r = K + 1 → gg p l e s m' args below meth cc G (d + 3 + 1) MX12_route Q 89 [some (.ref 82), some (.int (nI b)), some (.int (nI cell)), some (.int (nI K)), some (.int (nI (rtn A f (ft F b) cell D (fc F b) i))), some (.int (nI i))] [] h := by
  have g := k.g
  have h48 := g.N48
  obtain ⟨c0, c4, t9, -, -⟩ := k.f.2.2.2.1 b hb
  have D47 := hD.l47 g hc c0
  intro r
  induction r with
  | zero =>
    intro i hi
    have : i = K + 1 := by omega
    subst this
    exact wX12_route_89 hw.1 hw.2.1 hw.2.2.1 (bY (nI_lt (by omega) (by omega)) hq)
  | succ r ih =>
    intro i hi
    obtain ⟨p1, p2⟩ := rtn_p g (f := f) (t := ft F b) ⟨c0, c4⟩ hD i (by omega)
    have p1' := p1.1
    have rf := rtn_f g (f := f) (t := ft F b) (k := i) ⟨c0, c4⟩ hD (by omega)
    have el := (M.iff p1.1 (v := D - i) (by omega)).mpr p2
    refine wX12_route_89 hw.1 hw.2.1 hw.2.2.1 (bN (nI_nlt (by omega) (by omega)) (m_trustOf hw k hb ⟨_, rfl, rfl, m_nextStep (P := fun n => f n ≤ ft F b ∧ dsP A f (ft F b) (D - (i + 1)) n cell) (L := L) hw g k.l p1.1 t9 hF hf (fun c hc => ⟨hL c hc, M.1.1 c hc⟩) (fun n hn => ?_) ⟨_, rfl, rfl, ?_⟩⟩))
    · rw [el, ← M.iff hn.1 (by omega)]
      constructor
      · rintro ⟨y1, y2⟩; exact ⟨y1, by omega⟩
      · rintro ⟨y1, y2⟩; exact ⟨y1, by omega⟩
    · rw [rf, i_s1, nI_1]
      exact ih (i + 1) (by omega)
theorem st_route : gStepI l G (gInv Rst) MX11_route MX12_route 3 := by
  intro n9 h av hn9 hl hi
  obtain ⟨a, b, c, rfl⟩ := three_of hl
  obtain ⟨lk, sp, cd, A, F, T, hw, k, m, -, -⟩ := hi.2.2.2.2.2.2.k hn9
  have hm := gInv.mono Rst_cg n9 h hi
  have h6 := k.g.B6
  have g := k.g
  have h48 := k.g.N48
  rcases ixd a (qB A) (by omega) with ⟨j, hj, rfl⟩ | hb
  · obtain ⟨c0, c4, t9, -, -⟩ := k.f.2.2.2.1 j hj
    rcases wtr A b k.g with ⟨x, hx, rfl⟩ | hb
    · have hx1 := hx.1
      by_cases c1 : -1 ≤ c
      · obtain ⟨f, hF⟩ : ∃ f, (fun c => fer A F j c 0) = f := ⟨_, rfl⟩
        have fin : ∀ h1 h2, gEq [45, 46, 48, 50, 51, 52] h h1 → MG [82, 131, 132, 135, 136] h1 h2 → gInv Rst (n9 + 1) h2 := fun h1 h2 e1 e2 => by
          refine inv_read hi (e1.tr e2.1) (by decide) (fun j hj => ?_) ?_ ?_ ?_
          · rw [e2.2.1 j (fun z => by subst z; revert hj; decide), (e1.1 82 (by decide)).1]
          · rw [e2.2.2, (e1.1 82 (by decide)).2]
          · rw [(e2.1.1 58 (by decide)).1, (e1.1 58 (by decide)).1]
          · rw [(e2.1.1 58 (by decide)).1, (e1.1 58 (by decide)).1]
        have mdl : ∀ (v : Int32) (h1 : gH), gEq [45, 46, 48, 50, 51, 52] h h1 → ((∀ k, ¬ rch A f (ft F j) k (fc F j) x) → v = -1) → (∀ D, dsP A f (ft F j) D (fc F j) x → (c = -1 → v = nI D) ∧ (∀ K, c = nI K → K < D → v = nI (rtn A f (ft F j) x D (fc F j) (K + 1))) ∧ (¬ c = -1 → ¬ c < nI D → v = -1)) → gC l G 900 MX12_route [.ref 82, .int (nI j), .int (nI x), .int c] h1 (fun r h' => ∃ v'', r = some (.int v'') ∧ v = v'' ∧ gInv Rst (n9 + 1) h') := fun v h1 e1 q0 q1 => by
          have hw1 := hw.eq e1
          have m1 : KM A F h1 := m.eq e1 (fun x hx => by simp at hx; omega) (by rw [(e1.1 82 (by decide)).1])
          refine eX12_route (d := 899) hw1 (fun p e s m' args below meth cc => m_isBoat_y hw1 m1.g m1.l hj ⟨_, rfl, rfl, bN (by decide) (m_isWater_y hw1 m1.g m1.l hx ⟨_, rfl, rfl, bN (by decide) (bY c1 (m_laysFears hw1 m1 hj (fun h2 e2 v2 => ⟨rfl, e2.1.2, ?_⟩)))⟩)⟩)
          have hw2 := hw1.eq e2.1
          have m2 := m1.mg e2 (fun x hx => by simp at hx; omega)
          refine m_trustOf hw2 m2 hj ⟨_, rfl, rfl, m_laysSteps hw2 g m2.l hx.1 t9 hF v2 (fun h3 L e3 v3 M => ⟨rfl, e3.2, ?_⟩)⟩
          have e4 : MG [82, 131, 132, 135, 136] h1 h3 := ⟨(e2.1.tr e3).mono (fun x hx => by simp at hx ⊢; omega), fun j hj => by rw [(e3.1 82 (by decide)).1]; exact e2.2.1 j hj, by rw [(e3.1 82 (by decide)).2]; exact e2.2.2⟩
          have hw3 := hw2.eq e3
          have m3 := m1.mg e4 (fun x hx => by simp at hx; omega)
          have v2' : ∀ c, c < qN A → h3.1 135 c = nI (lfr A F j c) := fun c hc => by rw [(e3.1 135 (by decide)).1]; exact v2 c hc
          have f3 := fin h1 h3 e1 e4
          refine m_cellOf hw3 m3 hj ⟨_, rfl, rfl, vp_in_nI (by omega) (by decide), ?_⟩
          have lx := M.1.1 (fc F j) c0
          have z6 : nI (L (fc F j)) < 1000000 ↔ L (fc F j) < 1000000 := nI_ltI (b := 1000000) (by omega) (by decide)
          rw [nI_clamp (by omega), v3 _ c0, z6]
          refine ⟨fun z => ?_, fun z => ⟨_, rfl, q0 (fun k q => ?_), f3⟩⟩
          · have hD := (M.iff c0 z).mp rfl
            obtain ⟨r1, r2, r3⟩ := q1 _ hD
            refine ⟨fun y => ⟨vp_in_nI (by omega) (by decide), fun y2 => ?_, fun y2 => ⟨_, rfl, r3 y y2, f3⟩⟩, fun y => ⟨vp_in_nI (by omega) (by decide), _, rfl, r1 y, f3⟩⟩
            have cp : ¬ c < 0 := fun q => y (by
              rw [Int32.le_iff_toInt_le, show (-1 : Int32).toInt = -1 by decide] at c1
              rw [Int32.lt_iff_toInt_lt, show (0 : Int32).toInt = 0 by decide] at q
              refine Int32.toInt_inj.mp ?_
              rw [show (-1 : Int32).toInt = -1 by decide]
              omega)
            obtain ⟨K, hK, rfl⟩ := nI_of cp
            rw [nI_ltI hK (by omega)] at y2
            exact m_routeL (l := l) (G := G) (d := 896) (p := p) (e := e) (s := s) (m' := m') (args := args) (below := below) (meth := meth) (cc := cc) (F := F) (b := j) (Q := fun r h' => ∃ v'', r = some (.int v'') ∧ v = v'' ∧ gInv Rst (n9 + 1) h') hw3 m3 hj hx.1 hF v2' v3 M hD y2 ⟨_, rfl, r2 K rfl y2, f3⟩ (K + 1) 0 (by omega)
          · have := M.cm 47 _ c0 (rch_47 g hx.1 c0 q)
            omega
        refine eX11_route (d := 899) hw (c_isBoat_y hw k.g k.l hj ⟨_, rfl, rfl, bN (by decide) (c_isWater_y hw k.g k.l hx ⟨_, rfl, rfl, bN (by decide) (bY c1 (c_findRoute hw k hj hx hF (fun h1 D e1 hD v1 => ⟨_, rfl, e1.2, ?_⟩) (fun h1 e1 no => ⟨_, rfl, e1.2, ?_⟩)))⟩)⟩)
        · have D47 := hD.l47 g hx.1 c0
          refine ⟨fun y => ⟨fun y2 => ⟨_, rfl, mdl _ h1 e1 (fun _ => rfl) (fun D' hD' => ?_)⟩, fun y2 => ?_⟩, fun y => ⟨_, rfl, mdl _ h1 e1 (fun q => absurd hD.1 (q D)) (fun D' hD' => ?_)⟩⟩
          · obtain rfl := hD'.u hD
            refine ⟨fun q => absurd q y, fun K q q2 => ?_, fun _ _ => rfl⟩
            subst q
            rw [nI_leI (by omega) (by omega)] at y2
            omega
          · have cp : ¬ c < 0 := fun q => y (by
              rw [Int32.le_iff_toInt_le, show (-1 : Int32).toInt = -1 by decide] at c1
              rw [Int32.lt_iff_toInt_lt, show (0 : Int32).toInt = 0 by decide] at q
              refine Int32.toInt_inj.mp ?_
              rw [show (-1 : Int32).toInt = -1 by decide]
              omega)
            obtain ⟨K, hK, rfl⟩ := nI_of cp
            rw [nI_leI (by omega) (by omega)] at y2
            refine bN (nI_ge (b := 48) (by omega) (by decide)) ⟨vp_in_nI (by omega) (by decide), _, rfl, ?_⟩
            rw [nI_clamp hK, v1 K (by omega)]
            refine mdl _ h1 e1 (fun q => absurd hD.1 (q D)) (fun D' hD' => ?_)
            obtain rfl := hD'.u hD
            refine ⟨fun q => absurd q y, fun K' q q2 => ?_, fun _ q => absurd (nI_lt (show K < D' by omega) (by omega)) q⟩
            rw [(nI_eq (by omega) (by omega)).mp q]
          · obtain rfl := hD'.u hD
            refine ⟨fun _ => rfl, fun K q q2 => ?_, fun q => absurd y q⟩
            rw [y] at q
            exact absurd q.symm (i_nm1 (by omega))
        · refine ⟨fun y => ⟨fun y2 => ⟨_, rfl, mdl _ h1 e1 (fun _ => rfl) (fun D' hD' => absurd hD'.1 (no D'))⟩, fun y2 => absurd c1 y2⟩, fun y => ⟨_, rfl, mdl _ h1 e1 (fun _ => rfl) (fun D' hD' => absurd hD'.1 (no D'))⟩⟩
      · refine eX11_route (d := 899) hw (c_isBoat_y hw k.g k.l hj ⟨_, rfl, rfl, bN (by decide) (c_isWater_y hw k.g k.l hx ⟨_, rfl, rfl, bN (by decide) (bN c1 ⟨_, rfl, ?_⟩)⟩)⟩)
        exact eX12_route (d := 899) hw (fun p e s m' args below meth cc => m_isBoat_y hw m.g m.l hj ⟨_, rfl, rfl, bN (by decide) (m_isWater_y hw m.g m.l hx ⟨_, rfl, rfl, bN (by decide) (bN c1 ⟨_, rfl, rfl, hm⟩)⟩)⟩)
    · refine eX11_route (d := 899) hw (c_isBoat_y hw k.g k.l hj ⟨_, rfl, rfl, bN (by decide) (c_isWater_n hw k.g k.l hb ⟨_, rfl, rfl, bY rfl ⟨_, rfl, ?_⟩⟩)⟩)
      exact eX12_route (d := 899) hw (fun p e s m' args below meth cc => m_isBoat_y hw m.g m.l hj ⟨_, rfl, rfl, bN (by decide) (m_isWater_n hw m.g m.l hb ⟨_, rfl, rfl, bY rfl ⟨_, rfl, rfl, hm⟩⟩)⟩)
  · refine eX11_route (d := 899) hw (c_isBoat_n hw k.g k.l hb ⟨_, rfl, rfl, bY rfl ⟨_, rfl, ?_⟩⟩)
    exact eX12_route (d := 899) hw (fun p e s m' args below meth cc => m_isBoat_n hw m.g m.l hb ⟨_, rfl, rfl, bY rfl ⟨_, rfl, rfl, hm⟩⟩)
end RT3
