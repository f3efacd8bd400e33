section MT3
variable {l : Launch} {G : gG} {d : Nat} {Q : Option Value → gH → Prop} {h h0 h1 h2 : gH} {lk sp : Nat} {cd : Option Nat} {t : Nat → Nat} {n s i f q u x tb ob : Nat} {b ee : Bool} {p p' : Nat × Bool} {T C : List Nat} {out : pOut}
theorem MTk.w1 (tw : TWf t n) (w : isW t n i p) : p.1 < n := tkk_n1 (t := t) (b := p.2) (by have : tkk t n p.1 p.2 = 1001 := w.1; omega)
theorem pSq_sh : ∀ T C, 105 ∈ T → ∃ r, (pSq T C).1 = 105 :: r ∧ (pSq T C).2.length + (r.length + 1) = C.length + T.length
  | [], _, h => by cases h
  | x :: r, C, h => by
    by_cases z : x = 105
    · refine ⟨r, ?_, ?_⟩
      · show (if x = 105 then (x :: r, C) else pSq r (C ++ [x])).1 = _
        rw [if_pos z, z]
      · show (if x = 105 then (x :: r, C) else pSq r (C ++ [x])).2.length + _ = _
        rw [if_pos z]; rfl
    · have h' : 105 ∈ r := by
        rcases List.mem_cons.mp h with y | y
        · exact absurd y.symm z
        · exact y
      obtain ⟨r', e1, e2⟩ := pSq_sh r (C ++ [x]) h'
      refine ⟨r', ?_, ?_⟩
      · show (if x = 105 then (x :: r, C) else pSq r (C ++ [x])).1 = _
        rw [if_neg z]; exact e1
      · show (if x = 105 then (x :: r, C) else pSq r (C ++ [x])).2.length + _ = _
        rw [if_neg z, e2, List.length_append]
        show C.length + 1 + r.length = C.length + (r.length + 1)
        omega
theorem m_qGoesOnTest {K : Nat} (hw : gWf h lk sp cd) (tw : TWf t n) (tp : TPm t h) (m : MTt t n false p T C h) (hr : tst t n K false p T C out)
    (hf : ∀ f q h', out = .error (f, q) → f ≠ 0 → f < 10 → MQe f q h h' → Q (some (.int 0)) h')
    (hE : ∀ k' p' T' C' h', k' < K → tst t n k' true p' T' C' out → MQs 0 h h' → MTt t n true p' T' C' h' → Q (some (.int 1)) h')
    (hD : ∀ p' T' C' h', out = .ok (p', (pSq T' C').2) → 105 ∉ T' → MQs 0 h h' → MTt t n false p' T' C' h' → Q (some (.int 0)) h') : gC l G (d + 4) MX12_qGoesOnTest [.ref 82] h Q := by
  have n16 := tw.1
  refine gCt.of rfl rfl (Nat.le_of_ble_eq_true rfl) (fun p9 e9 s9 m9 args9 below9 meth9 cc9 => ?_)
  have main : ∀ k p T C h', k ≤ K → MQs 0 h h' → MTt t n false p T C h' → tst t n k false p T C out → gg p9 l e9 s9 m9 args9 below9 meth9 cc9 G (d + 4) MX12_qGoesOnTest Q 0 [some (.ref 82)] [] h' := by
    intro k
    induction k with
    | zero => intro p T C h' _ _ _ hr; exact absurd hr (fun z => z)
    | succ k ih =>
      intro p T C h' kK e1 m1 hr
      have hw1 := hw.eq e1.1.1
      have tp1 := tp.qx e1.1
      have sn := m1.1.1
      have m6 := m1.2.2.2.2.2.1
      have wu : ∀ i j, i < 40 → j < 40 → isW t n i p → isW t n j p → i = j := fun i j hi hj a b => wat_u hi hj a.2 b.2
      have w93 : ∀ i, isW t n i p → tkk t n p.1 p.2 = 93 → False := fun i w z => by have : tkk t n p.1 p.2 = 1001 := w.1; omega
      -- and
      have push : ∀ c, (c = 28 ∨ c = 29) → ∀ (T C : List Nat) h2, MQs 0 h h2 → MTt t n false (nx t n p.1, nj t n p.1) T C h2 → C.length + T.length + 1 < nx t n p.1 → tst t n k true (nx t n p.1, nj t n p.1) (c :: T) C out → (vp_in (h2.1 82 108) 1700 ∧ Q (some (.int 1)) (sI (sI h2 165 (h2.1 82 108).toNatClampNeg (nI (qtc c))) 82 108 (h2.1 82 108 + 1))) := fun c hc T C h2 e2 m2 l2 hr => by
        have sn2 : nx t n p.1 ≤ n := m2.1.1
        rw [m2.2.1, nI_clamp (by omega), nI_1]
        exact ⟨vp_in_nI (by omega) (by decide), hE k _ _ _ _ (by omega) hr ⟨MQx.si82 (by decide) (MQx.si165 (Nat.zero_le _) e2.1), by rw [sI_nb (by decide), sI_ne (by decide)]; exact e2.2⟩ (m_tPush m2 hc (by show C.length + (T.length + 1) < nx t n p.1; omega))⟩
      have H87 : ∀ (T C : List Nat) h2, MQs 0 h h2 → MTt t n false (nx t n p.1, nj t n p.1) T C h2 → C.length + T.length + 1 < nx t n p.1 → tst t n k true (nx t n p.1, nj t n p.1) (29 :: (pAn T C).1) (pAn T C).2 out → gg p9 l e9 s9 m9 args9 below9 meth9 cc9 G (d + 4) MX12_qGoesOnTest Q 87 [some (.ref 82)] [] h2 := by
        intro T
        induction T with
        | nil =>
          intro C h2 e2 m2 l2 hr
          have hw2 := hw.eq e2.1.1
          exact wX12_qGoesOnTest_87 hw2.1 hw2.2.1 hw2.2.2.1 (m_tIsOn (c := 10) hw2 tw m2 (by decide) (fun x r z => by cases z) (fun _ => ⟨_, rfl, rfl, bY rfl (push 29 (Or.inr rfl) [] C h2 e2 m2 l2 hr)⟩))
        | cons x r ihT =>
          intro C h2 e2 m2 l2 hr
          have hw2 := hw.eq e2.1.1
          have b := qtc_t (m2.2.2.2.2.2.2.2.2.1 x List.mem_cons_self)
          have ll : (x :: r).length = r.length + 1 := rfl
          have ep : pAn (x :: r) C = if x = 29 then pAn r (C ++ [29]) else (x :: r, C) := rfl
          refine wX12_qGoesOnTest_87 hw2.1 hw2.2.1 hw2.2.2.1 (m_tIsOn (c := 10) hw2 tw m2 (by decide) (fun y r' z z2 => ⟨_, rfl, rfl, bN (by decide) ?_⟩) (fun no => ⟨_, rfl, rfl, bY rfl (push 29 (Or.inr rfl) (x :: r) C h2 e2 m2 l2 ?_)⟩))
          · have := (List.cons.inj z).1
            subst this
            have x29 : x = 29 := b.2.2.1.mp z2
            subst x29
            rw [ep, if_pos rfl] at hr
            refine m_tDrops (d := d + 2) hw2 tw m2 (Or.inr rfl) (fun h3 e3 m3 => ⟨rfl, e3.1.1.2, ihT (C ++ [29]) h3 (e2.tr e3) m3 ?_ hr⟩)
            rw [List.length_append]
            show C.length + 1 + r.length + 1 < nx t n p.1
            omega
          · rw [ep, if_neg (fun z => no x r rfl (b.2.2.1.mpr z))] at hr
            exact hr
      have H137 : ∀ (T C : List Nat) h2, MQs 0 h h2 → MTt t n false (nx t n p.1, nj t n p.1) T C h2 → C.length + T.length + 1 < nx t n p.1 → tst t n k true (nx t n p.1, nj t n p.1) (28 :: (pOr T C).1) (pOr T C).2 out → gg p9 l e9 s9 m9 args9 below9 meth9 cc9 G (d + 4) MX12_qGoesOnTest Q 137 [some (.ref 82)] [] h2 := by
        intro T
        induction T with
        | nil =>
          intro C h2 e2 m2 l2 hr
          have hw2 := hw.eq e2.1.1
          exact wX12_qGoesOnTest_137 hw2.1 hw2.2.1 hw2.2.2.1 (m_tIsOn (c := 10) hw2 tw m2 (by decide) (fun x r z => by cases z) (fun _ => ⟨_, rfl, rfl, bY' rfl (m_tIsOn (c := 11) hw2 tw m2 (by decide) (fun x r z => by cases z) (fun _ => ⟨_, rfl, rfl, bY rfl (push 28 (Or.inl rfl) [] C h2 e2 m2 l2 hr)⟩))⟩))
        | cons x r ihT =>
          intro C h2 e2 m2 l2 hr
          have hw2 := hw.eq e2.1.1
          have b := qtc_t (m2.2.2.2.2.2.2.2.2.1 x List.mem_cons_self)
          have ll : (x :: r).length = r.length + 1 := rfl
          have ep : pOr (x :: r) C = if x = 29 ∨ x = 28 then pOr r (C ++ [x]) else (x :: r, C) := rfl
          have dr : (x = 29 ∨ x = 28) → gC l G (d + 3) MX12_qDrops [.ref 82] h2 (rV fun h3 => h3.2.2 = h2.2.2 ∧ gg p9 l e9 s9 m9 args9 below9 meth9 cc9 G (d + 4) MX12_qGoesOnTest Q 137 [some (.ref 82)] [] h3) := fun z => by
            rw [ep, if_pos z] at hr
            refine m_tDrops (d := d + 2) hw2 tw m2 (by omega) (fun h3 e3 m3 => ⟨rfl, e3.1.1.2, ihT (C ++ [x]) h3 (e2.tr e3) m3 ?_ hr⟩)
            rw [List.length_append]
            show C.length + 1 + r.length + 1 < nx t n p.1
            omega
          refine wX12_qGoesOnTest_137 hw2.1 hw2.2.1 hw2.2.2.1 (m_tIsOn (c := 10) hw2 tw m2 (by decide) (fun y r' z z2 => ⟨_, rfl, rfl, bN' (by decide) (dr ?_)⟩) (fun no => ⟨_, rfl, rfl, bY' rfl (m_tIsOn (c := 11) hw2 tw m2 (by decide) (fun y r' z z2 => ⟨_, rfl, rfl, bN (by decide) (dr ?_)⟩) (fun no2 => ⟨_, rfl, rfl, bY rfl (push 28 (Or.inl rfl) (x :: r) C h2 e2 m2 l2 ?_)⟩))⟩))
          · have := (List.cons.inj z).1
            subst this
            exact Or.inl (b.2.2.1.mp z2)
          · have := (List.cons.inj z).1
            subst this
            exact Or.inr (b.2.2.2.1.mp z2)
          · rw [ep, if_neg (fun z => z.elim (fun z => no x r rfl (b.2.2.1.mpr z)) (fun z => no2 x r rfl (b.2.2.2.1.mpr z)))] at hr
            exact hr
      -- behind what is closed
      have tail : ∀ h', MQs 0 h h' → MTt t n false p T C h' → ¬ (tkk t n p.1 p.2 = 93 ∧ 105 ∈ T) → gC l G (d + 3) MX12_takes [.ref 82, .ref 150] h' (rI fun v6 h6 => h6.2.2 = h'.2.2 ∧ ((v6 = 0 → gC l G (d + 3) MX12_takes [.ref 82, .ref 151] h6 (rI fun v7 h7 => h7.2.2 = h6.2.2 ∧ ((v7 = 0 → ((¬ (h7.1 82 5) = 0 → Q (some (.int 0)) h7) ∧ ((h7.1 82 5) = 0 → gC l G (d + 3) MX12_qHasSquare [.ref 82] h7 (rI fun v8 h8 => h8.2.2 = h7.2.2 ∧ ((v8 = 0 → Q (some (.int 0)) h8) ∧ (¬ v8 = 0 → gC l G (d + 3) MX12_fail [.ref 82, .int 1, .int (h8.1 82 2)] h8 (rV fun h9 => h9.2.2 = h8.2.2 ∧ Q (some (.int 0)) h9))))))) ∧ (¬ v7 = 0 → gg p9 l e9 s9 m9 args9 below9 meth9 cc9 G (d + 4) MX12_qGoesOnTest Q 137 [some (.ref 82)] [] h7)))) ∧ (¬ v6 = 0 → gg p9 l e9 s9 m9 args9 below9 meth9 cc9 G (d + 4) MX12_qGoesOnTest Q 87 [some (.ref 82)] [] h6))) := fun h' e1 m1 nc => by
        have hw1 := hw.eq e1.1.1
        have tp1 := tp.qx e1.1
        refine m_takes (d := d + 1) (i := 29) (w := 150) hw1 tw tp1 m1.1 (by decide) rfl (by decide) (fun j hj => tp1.2.2 7 (by decide) j hj) (fun h2 z e2 k2 => ⟨_, rfl, e2.1.2, bN (by decide) ?_⟩) (fun h2 n29 e2 k2 a2 => ⟨_, rfl, e2.1.2, bY rfl ?_⟩)
        · have lt : p.1 < n := MTk.w1 tw z
          have hg := nx_gt (t := t) lt
          refine H87 T C h2 (e1.tr e2.qx) (m1.ml (p' := (nx t n p.1, nj t n p.1)) e2 k2 nx_ge) (by omega) ?_
          rcases hr with y | y | y | y
          · exact absurd y.1 (fun q => w93 29 z q)
          · exact y.2
          · exact absurd (wu 29 28 (by decide) (by decide) z y.1) (by decide)
          · exact absurd z y.2.1
        · have e2' := e1.tr e2.qx
          have hw2 := hw.eq e2'.1.1
          have tp2 := tp.qx e2'.1
          have m2 : MTt t n false p T C h2 := m1.ml (p' := p) e2 k2 (Nat.le_refl _)
          refine m_takes (d := d + 1) (i := 28) (w := 151) hw2 tw tp2 m2.1 (by decide) rfl (by decide) (fun j hj => tp2.2.2 8 (by decide) j hj) (fun h3 z e3 k3 => ⟨_, rfl, e3.1.2, bN (by decide) ?_⟩) (fun h3 n28 e3 k3 a3 => ⟨_, rfl, e3.1.2, bY rfl ?_⟩)
          · have lt : p.1 < n := MTk.w1 tw z
            have hg := nx_gt (t := t) lt
            refine H137 T C h3 (e2'.tr e3.qx) (m2.ml (p' := (nx t n p.1, nj t n p.1)) e3 k3 nx_ge) (by omega) ?_
            rcases hr with y | y | y | y
            · exact absurd y.1 (fun q => w93 28 z q)
            · exact absurd y.1 n29
            · exact y.2
            · exact absurd z y.2.2.1
          · have e3' := e2'.tr e3.qx
            have hw3 := hw.eq e3'.1.1
            have m3 : MTt t n false p T C h3 := m2.ml (p' := p) e3 k3 (Nat.le_refl _)
            have fin : (105 ∈ T ∧ out = .error (1, p.1)) ∨ (105 ∉ T ∧ out = .ok (p, (pSq T C).2)) := by
              rcases hr with y | y | y | y
              · exact absurd ⟨y.1, y.2.1⟩ nc
              · exact absurd y.1 n29
              · exact absurd y.1 n28
              · exact y.2.2.2
            refine bY' k3.2.2.2.1 (m_qHasSquare hw3 tw m3 (fun z => ⟨_, rfl, rfl, bN (by decide) ?_⟩) (fun z => ⟨_, rfl, rfl, bY rfl ?_⟩))
            · have ro : out = .error (1, p.1) := fin.elim (fun y => y.2) (fun y => absurd z y.1)
              rw [a3]
              exact m_fail (f := 1) hw3 k3.2.2.2.1 (fun h4 e4 => ⟨rfl, e4.1.2, hf 1 p.1 h4 ro (by decide) (by decide) (e3'.fl (e4.qx (m3.bd tw))).e⟩)
            · have ro : out = .ok (p, (pSq T C).2) := fin.elim (fun y => absurd y.1 z) (fun y => y.2)
              exact hD p T C h3 ro z e3' m3
      refine wX12_qGoesOnTest_0 hw1.1 hw1.2.1 hw1.2.2.1 (bY' m1.1.2.2.2.1 (m_look (d := d + 3) hw1 tw tp1 m1.1 (fun h2 e2 k2 a2 => ⟨_, rfl, e2.1.2, ?_⟩)))
      have e2' := e1.tr e2.qx
      have hw2 := hw.eq e2'.1.1
      have m2 : MTt t n false p T C h2 := m1.ml (p' := p) e2 k2 (Nat.le_refl _)
      have S93 : (if p.1 < n then nI (t p.1) else -1) = 93 ↔ tkk t n p.1 p.2 = 93 := sgz (p := p) (c := 93) tw (by decide) (by decide)
      rw [S93]
      refine ⟨fun z => tail h2 e2' m2 (fun y => z y.1), fun t93 => m_qHasSquare hw2 tw m2 (fun z => ⟨_, rfl, rfl, bN (by decide) ?_⟩) (fun z => ⟨_, rfl, rfl, bY rfl (tail h2 e2' m2 (fun y => z y.2))⟩)⟩
      -- it is closed
      have r1 : tst t n k false (nx t n p.1, nj t n p.1) (dN (pSq T C).1.tail (pSq T C).2).1 (dN (pSq T C).1.tail (pSq T C).2).2 out := by
        rcases hr with y | y | y | y
        · exact y.2.2
        · exact absurd t93 (fun q => w93 29 y.1 q)
        · exact absurd t93 (fun q => w93 28 y.1 q)
        · exact absurd ⟨t93, z⟩ y.1
      rw [a2, nI_1]
      have lt : p.1 < n := ((tkk_c (by decide) (by decide)).mp t93).1
      have hg := nx_gt (t := t) lt
      have e3 : MQs 0 h (sI h2 82 2 (nI (p.1 + 1))) := ⟨MQx.si82 (by decide) e2'.1, by rw [sI_nb (by decide)]; exact e2'.2⟩
      have m3 : MTt t n false (nx t n p.1, nj t n p.1) T C (sI h2 82 2 (nI (p.1 + 1))) := by
        obtain ⟨x1, x2, x3, x4, x5, x6, x7, x8, x9, x10⟩ := m2
        exact ⟨x1.sign a2 (by decide) (by decide) t93, by rw [sI_nb (by decide)]; exact x2, by rw [sI_nb (by decide)]; exact x3, by rw [sI_nb (by decide)]; exact x4, fun i hi => by rw [sI_ne (by decide)]; exact x5 i hi, by show C.length + T.length < nx t n p.1; omega, x7, by rw [sI_na (by decide)]; exact x8, x9, x10⟩
      have H33 : ∀ (R D : List Nat) h4, MQs 0 h h4 → MTt t n false (nx t n p.1, nj t n p.1) R D h4 → 105 ∈ R → pSq R D = pSq T C → gg p9 l e9 s9 m9 args9 below9 meth9 cc9 G (d + 4) MX12_qGoesOnTest Q 33 [some (.ref 82)] [] h4 := by
        intro R
        induction R with
        | nil => intro D h4 _ _ z; cases z
        | cons x r ihR =>
          intro D h4 e4 m4 z105 epp
          have hw4 := hw.eq e4.1.1
          obtain ⟨k1, k2, k3, k4, k5, k6, k7, ⟨k8, k8'⟩, k9, k10⟩ := id m4
          have b := qtc_t (k9 x List.mem_cons_self)
          have ll : (x :: r).length = r.length + 1 := rfl
          rw [ll] at k2 k6
          have ep : pSq (x :: r) D = if x = 105 then (x :: r, D) else pSq r (D ++ [x]) := rfl
          refine wX12_qGoesOnTest_33 hw4.1 hw4.2.1 hw4.2.2.1 (m_tIsOn (c := 25) hw4 tw m4 (by decide) (fun y r' z z2 => ⟨_, rfl, rfl, bN' (by decide) ?_⟩) (fun no => ⟨_, rfl, rfl, bY' rfl ?_⟩))
          · have := (List.cons.inj z).1
            subst this
            have x105 : x = 105 := b.2.2.2.2.2.1.mp z2
            subst x105
            rw [ep, if_pos rfl] at epp
            have cn : cnT (105 :: r) = cnT r + 1 := cnT_mk (Or.inr rfl)
            rw [cn] at k3 k7
            rw [k2, k3, i_s1, i_s1]
            have e5 : MQs 0 h (sI (sI h4 82 108 (nI r.length)) 82 109 (nI (cnT r))) := ⟨MQx.si82 (by decide) (MQx.si82 (by decide) e4.1), by rw [sI_nb (by decide), sI_nb (by decide)]; exact e4.2⟩
            have m5 : MTt t n true (nx t n p.1, nj t n p.1) r D (sI (sI h4 82 108 (nI r.length)) 82 109 (nI (cnT r))) := ⟨(k1.gx (by decide)).gx (by decide), by rw [sI_nb (by decide), sI_s], sI_s _ _ _ _, by rw [sI_nb (by decide), sI_nb (by decide)]; exact k4, fun i hi => by rw [sI_ne (by decide), sI_ne (by decide)]; exact k5 i hi, by omega, by omega, by rw [sI_na (by decide), sI_na (by decide)]; exact k8', k9.tl, wft_105.mp k10⟩
            rw [← epp] at r1
            exact m_qDropsNots (d := d + 1) (hw.eq e5.1.1) tw m5 (fun h6 e6 m6 => ⟨rfl, e6.1.1.2, ih _ _ _ h6 (by omega) (e5.tr e6) m6 r1⟩)
          · have x105 : x ≠ 105 := fun y => no x r rfl (b.2.2.2.2.2.1.mpr y)
            have x30 : x ≠ 30 := fun y => by subst y; exact absurd (wft_30.mp k10).1 (by decide)
            have xx := k9 x List.mem_cons_self
            rw [ep, if_neg x105] at epp
            refine m_tDrops (d := d + 2) hw4 tw m4 (by omega) (fun h5 e5 m5 => ⟨rfl, e5.1.1.2, ihR (D ++ [x]) h5 (e4.tr e5) m5 ?_ epp⟩)
            rcases List.mem_cons.mp z105 with y | y
            · exact absurd y.symm x105
            · exact y
      exact H33 T C _ e3 m3 z rfl
  exact main K p T C h (Nat.le_refl _) MQs.rf m hr
theorem m_qTest {K : Nat} (hw : gWf h lk sp cd) (tw : TWf t n) (tp : TPm t h) (m : MTt t n true p T C h) (hr : tst t n K true p T C out)
    (hf : ∀ f q h', out = .error (f, q) → f ≠ 0 → f < 10 → MQe f q h h' → Q none h')
    (hok : ∀ p' C' h', out = .ok (p', C') → MQs 0 h h' → MTt t n false p' [] C' h' → Q none h') : gC l G (d + 8) MX12_qTest [.ref 82] h Q := by
  have n16 := tw.1
  refine eX12_qTest hw (fun p9 e9 s9 m9 args9 below9 meth9 cc9 => ?_)
  have F : ∀ h' f q (x1 : Int32), out = .error (f, q) → f ≠ 0 → f < 10 → MQe f q h h' → gg p9 l e9 s9 m9 args9 below9 meth9 cc9 G (d + 7 + 1) MX12_qTest Q 2 [some (.ref 82), some (.int x1), none] [] h' := fun h' f q x1 eo f0 f9 e1 => by
    have hwh := hw.eq e1.1.1
    have b5 : ¬ h'.1 82 5 = 0 := by rw [e1.2.1]; exact bad0 f0 f9
    have g110 : gg p9 l e9 s9 m9 args9 below9 meth9 cc9 G (d + 7 + 1) MX12_qTest Q 110 [some (.ref 82), some (.int x1), none] [] h' := wX12_qTest_110 hwh.1 hwh.2.1 hwh.2.2.1 (bN' b5 (hf f q h' eo f0 f9 e1))
    exact wX12_qTest_2 hwh.1 hwh.2.1 hwh.2.2.1 ⟨fun _ => g110, fun _ => bN' b5 g110⟩
  have D : ∀ (T C : List Nat) p' h', out = .ok (p', (pSq T C).2) → 105 ∉ T → MQs 0 h h' → MTt t n false p' T C h' → gg p9 l e9 s9 m9 args9 below9 meth9 cc9 G (d + 7 + 1) MX12_qTest Q 110 [some (.ref 82), some (.int 0), none] [] h' := by
    intro T
    induction T with
    | nil =>
      intro C p' h' eo _ e1 m1
      have hwh := hw.eq e1.1.1
      refine wX12_qTest_110 hwh.1 hwh.2.1 hwh.2.2.1 (bY' m1.1.2.2.2.1 (bY (by rw [m1.2.1]; decide) (hok p' C h' eo e1 m1)))
    | cons x r ih =>
      intro C p' h' eo hm e1 m1
      have hwh := hw.eq e1.1.1
      have sn := m1.1.1
      have m6 := m1.2.2.2.2.2.1
      have ll : (x :: r).length = r.length + 1 := rfl
      rw [ll] at m6
      have x105 : x ≠ 105 := fun y => hm (by rw [y]; exact List.mem_cons_self)
      have x30 : x ≠ 30 := fun y => by subst y; exact absurd (wft_30.mp m1.2.2.2.2.2.2.2.2.2).1 (by decide)
      have xx := m1.2.2.2.2.2.2.2.2.1 x List.mem_cons_self
      have ep : pSq (x :: r) C = if x = 105 then (x :: r, C) else pSq r (C ++ [x]) := rfl
      rw [ep, if_neg x105] at eo
      refine wX12_qTest_110 hwh.1 hwh.2.1 hwh.2.2.1 (bY' m1.1.2.2.2.1 (bN (by rw [m1.2.1, ll]; exact nI_ge (a := 0) (by omega) (by omega)) (m_tDrops (d := d + 6) hwh tw m1 (by omega) (fun h2 e2 m2 => ⟨rfl, e2.1.1.2, ih (C ++ [x]) p' h2 eo (fun y => hm (List.mem_cons_of_mem _ y)) (e1.tr e2) m2⟩))))
  have main : ∀ k' k p T C h', k ≤ k' → MQs 0 h h' → MTt t n true p T C h' → tst t n k true p T C out → gg p9 l e9 s9 m9 args9 below9 meth9 cc9 G (d + 7 + 1) MX12_qTest Q 2 [some (.ref 82), some (.int 1), none] [] h' := by
    intro k'
    induction k' with
    | zero =>
      intro k p T C h' k0 _ _ hr
      have : k = 0 := by omega
      subst this
      exact absurd hr (fun z => z)
    | succ k' ih =>
      intro k p T C h' kk e1 m1 hr
      cases k with
      | zero => exact absurd hr (fun z => z)
      | succ k =>
        have hw1 := hw.eq e1.1.1
        have tp1 := tp.qx e1.1
        have sn := m1.1.1
        have m6 := m1.2.2.2.2.2.1
        have w91 : ∀ i, isW t n i p → tkk t n p.1 p.2 = 91 → False := fun i w z => by have : tkk t n p.1 p.2 = 1001 := w.1; omega
        have wu : ∀ i j, i < 40 → j < 40 → isW t n i p → isW t n j p → i = j := fun i j hi hj a b => wat_u hi hj a.2 b.2
        refine wX12_qTest_2 hw1.1 hw1.2.1 hw1.2.2.1 (bN (by decide) (bY' m1.1.2.2.2.1 (m_look (d := d + 7) hw1 tw tp1 m1.1 (fun h2 e2 k2 a2 => ⟨_, rfl, e2.1.2, ?_⟩))))
        have e2' := e1.tr e2.qx
        have hw2 := hw.eq e2'.1.1
        have tp2 := tp.qx e2'.1
        have m2 : MTt t n true p T C h2 := m1.ml (p' := p) e2 k2 (Nat.le_refl _)
        have S91 : (if p.1 < n then nI (t p.1) else -1) = 91 ↔ tkk t n p.1 p.2 = 91 := sgz (p := p) (c := 91) tw (by decide) (by decide)
        rw [S91]
        refine ⟨fun t91 => ?_, fun t91 => ?_⟩
        · refine m_isHere (d := d + 6) (i := 30) (w := 149) hw2 tw tp2 k2 (by decide) rfl (by decide) (fun j hj => tp2.2.2 6 (by decide) j hj) (fun h3 e3 k3 a3 w30 => ⟨_, rfl, e3.1.2, bN (by decide) ?_⟩) (fun h3 e3 k3 a3 w30 => ⟨_, rfl, e3.1.2, bY rfl ?_⟩)
          · -- not
            have r1 : (cnT T = 6 ∧ out = .error (4, p.1)) ∨ (cnT T ≠ 6 ∧ tst t n k true (nx t n p.1, nj t n p.1) (30 :: T) C out) := by
              rcases hr with y | y | y | y
              · exact absurd y.1 t91
              · exact y.2
              · exact absurd (wu 30 31 (by decide) (by decide) w30 y.1) (by decide)
              · exact absurd w30 y.2.1
            have e3' := e2'.tr e3.qx
            have hw3 := hw.eq e3'.1.1
            have m3 : MTt t n true p T C h3 := m2.ml (p' := p) e3 k3 (Nat.le_refl _)
            have lt : p.1 < n := MTk.w1 tw w30
            have hg := nx_gt (t := t) lt
            rw [a3]
            refine m_tOpens (d := d + 6) (mk := 30) hw3 tw m3 (Or.inl rfl) (fun h4 c6 e4 f4 st => ⟨rfl, e4.1.1.2, ?_⟩) (fun h4 c6 e4 => ⟨rfl, e4.1.2, ?_⟩)
            · have e4' := e3'.tr e4
              have hw4 := hw.eq e4'.1.1
              have tp4 := tp.qx e4'.1
              have k4 : MTk t n p.1 p.2 h4 := m3.1.f1 (fun j _ z1 z2 _ => f4 j z1 z2)
              have wok : wdF t n 30 p = .ok (nx t n p.1, nj t n p.1) := if_pos w30
              refine m_asks (d := d + 4) (i := 30) (w := 149) hw4 tw tp4 k4 (by decide) rfl (by decide) (fun j hj => tp4.2.2 6 (by decide) j hj) (fun p' h5 q5 e5 k5 => ⟨rfl, e5.1.2, ?_⟩) (fun f q h5 q5 e5 => absurd (wok.symm.trans q5) (by intro z; cases z))
              have pe : (nx t n p.1, nj t n p.1) = p' := Except.ok.inj (wok.symm.trans q5)
              subst pe
              exact ih k _ (30 :: T) C h5 (by omega) (e4'.tr e5.qx) (st _ h5 k5 hg (fun j j1 j2 j3 j4 => e5.2.1 j (by simp; omega)) (e5.1.1 164 (by decide)).1 (e5.1.1 165 (by decide)).1) (r1.elim (fun y => absurd y.1 c6) (fun y => y.2))
            · have ro : out = .error (4, p.1) := r1.elim (fun y => y.2) (fun y => absurd c6 y.1)
              have e4' : MQe 4 p.1 h h4 := (e3'.fl (e4.qx (m3.bd tw))).e
              have b5 : h4.1 82 5 ≠ 0 := by rw [e4'.2.1]; decide
              exact m_asks_f (d := d + 6) (hw.eq e4'.1.1) rfl b5 ⟨rfl, rfl, F h4 4 p.1 1 ro (by decide) (by decide) e4'⟩
          · -- a fact
            have e3' := e2'.tr e3.qx
            have hw3 := hw.eq e3'.1.1
            have tp3 := tp.qx e3'.1
            have m3 : MTt t n true p T C h3 := m2.ml (p' := p) e3 k3 (Nat.le_refl _)
            have r1 : (isW t n 31 p ∧ tst t n k false (nx t n p.1, nj t n p.1) (dN T (C ++ [31])).1 (dN T (C ++ [31])).2 out) ∨ (¬ isW t n 31 p ∧ sumR t n (cnT T) p C (fun p1 C1 out => (¬ isC (tkk t n p1.1 p1.2) ∧ out = .error (1, p1.1)) ∨ (isC (tkk t n p1.1 p1.2) ∧ sumR t n (cnT T) (nx t n p1.1, nj t n p1.1) C1 (fun p2 C2 out => tst t n k false p2 (dN T (C2 ++ [tkk t n p1.1 p1.2])).1 (dN T (C2 ++ [tkk t n p1.1 p1.2])).2 out) out)) out) := by
              rcases hr with y | y | y | y
              · exact absurd y.1 t91
              · exact absurd y.1 w30
              · exact Or.inl y
              · exact Or.inr ⟨y.2.2.1, y.2.2.2⟩
            refine m_qFact (d := d) (fun p' C' out => tst t n k false p' (dN T C').1 (dN T C').2 out) hw3 tw tp3 m3 r1 (fun f q h4 eo f0 f9 e4 => ⟨rfl, e4.1.1.2, ?_⟩) (fun p' C' h4 r4 e4 m4 => ⟨rfl, e4.1.1.2, ?_⟩)
            · have e4' := e3'.e e4
              have b5 : h4.1 82 5 ≠ 0 := by rw [e4'.2.1]; exact bad0 f0 f9
              exact m_qDropsNots_f (d := d + 6) (hw.eq e4'.1.1) b5 ⟨rfl, rfl, bN' b5 (F h4 f q 0 eo f0 f9 e4')⟩
            · have e4' := e3'.tr e4
              refine m_qDropsNots (d := d + 5) (hw.eq e4'.1.1) tw m4 (fun h5 e5 m5 => ⟨rfl, e5.1.1.2, bY' m5.1.2.2.2.1 ?_⟩)
              have e5' := e4'.tr e5
              have hw5 := hw.eq e5'.1.1
              refine m_qGoesOnTest (d := d + 3) hw5 tw (tp.qx e5'.1) m5 r4 (fun f q h6 eo f0 f9 e6 => ⟨_, rfl, e6.1.1.2, bY rfl (F h6 f q 0 eo f0 f9 (e5'.e e6))⟩) (fun k3 p3 T3 C3 h6 kl3 hr3 e6 m6 => ⟨_, rfl, e6.1.1.2, bN (by decide) (ih k3 p3 T3 C3 h6 (by omega) (e5'.tr e6) m6 hr3)⟩) (fun p3 T3 C3 h6 eo hm e6 m6 => ⟨_, rfl, e6.1.1.2, bY rfl ?_⟩)
              have e6' := e5'.tr e6
              have hw6 := hw.eq e6'.1.1
              exact wX12_qTest_2 hw6.1 hw6.2.1 hw6.2.2.1 (bY rfl (D T3 C3 p3 h6 eo hm e6' m6))
        · -- a square bracket
          have r1 : (cnT T = 6 ∧ out = .error (4, p.1)) ∨ (cnT T ≠ 6 ∧ tst t n k true (nx t n p.1, nj t n p.1) (105 :: T) C out) := by
            rcases hr with y | y | y | y
            · exact y.2
            · exact absurd t91 (fun q => w91 30 y.1 q)
            · exact absurd t91 (fun q => w91 31 y.1 q)
            · exact absurd t91 y.1
          have lt : p.1 < n := ((tkk_c (by decide) (by decide)).mp t91).1
          have hg := nx_gt (t := t) lt
          rw [a2]
          refine m_tOpens (d := d + 6) (mk := 105) hw2 tw m2 (Or.inr rfl) (fun h4 c6 e4 f4 st => ⟨rfl, e4.1.1.2, ?_⟩) (fun h4 c6 e4 => ⟨rfl, e4.1.2, ?_⟩)
          · have e4' := e2'.tr e4
            rw [f4 2 (by decide) (by decide), a2, nI_1]
            have k4 : MTk t n p.1 p.2 h4 := m2.1.f1 (fun j _ z1 z2 _ => f4 j z1 z2)
            have k5 : MTk t n (nx t n p.1) (nj t n p.1) (sI h4 82 2 (nI (p.1 + 1))) := k4.sign (by rw [f4 2 (by decide) (by decide)]; exact a2) (by decide) (by decide) t91
            have e5 : MQs 0 h (sI h4 82 2 (nI (p.1 + 1))) := ⟨MQx.si82 (by decide) e4'.1, by rw [sI_nb (by decide)]; exact e4'.2⟩
            exact ih k (nx t n p.1, nj t n p.1) (105 :: T) C _ (by omega) e5 (st _ _ k5 hg (fun j j1 j2 j3 j4 => sI_nb j1) (sI_na (by decide)) (sI_na (by decide))) (r1.elim (fun y => absurd y.1 c6) (fun y => y.2))
          · have ro : out = .error (4, p.1) := r1.elim (fun y => y.2) (fun y => absurd c6 y.1)
            have e4' : MQe 4 p.1 h h4 := (e2'.fl (e4.qx (m2.bd tw))).e
            refine F _ 4 p.1 1 ro (by decide) (by decide) ⟨MQx.si82 (by decide) e4'.1, by rw [sI_nb (by decide)]; exact e4'.2.1, by rw [sI_nb (by decide)]; exact e4'.2.2⟩
  exact main K K p T C h (Nat.le_refl _) MQs.rf m hr
end MT3
