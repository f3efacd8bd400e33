/-- a row of trials that can be told -/
def tOK (A : qT) (t : Nat → Nat) (b k : Nat) : Prop := b < qB A ∧ 1 ≤ k ∧ k ≤ 20 ∧ ∀ i, i < k → qW A (t (2 * i)) ∧ t (2 * i + 1) ≤ 1
section TL
variable {l : Launch} {G : gG} {d : Nat} {Q : Option Value → gH → Prop} {h h0 : gH} {lk sp : Nat} {cd : Option Nat} {A F : qT} {T n : Nat} {t : Nat → Nat}
theorem i_half (n : Nat) (hn : n < 2 ^ 31) : nI n / 2 = nI (n / 2) := pk_div (d := 2) hn (by decide) (by decide)
theorem c_read {a : Int32} (hw : gWf h lk sp cd) (g : qG A) (k : LC A lk h) (hn : n ≤ 1600) (ht : ∀ i, i < 1600 → h.1 2 i = nI (t i) ∧ t i < 256)
    (hy : ∀ b kk h', a = nI b → n = 2 * kk → tOK A t b kk → gEq [58, 59, 60] h h' → h'.1 58 3 = nI b → h'.1 58 4 = nI kk → (∀ i, i < kk → h'.1 59 i = nI (t (2 * i)) ∧ h'.1 60 i = nI (t (2 * i + 1))) → Q (some (.int 1)) h')
    (hno : (∀ b kk, tOK A t b kk → a = nI b → n ≠ 2 * kk) → Q (some (.int 0)) h) : gC l G (d + 2) MX8_read [.ref 58, .int a, .ref 2, .int (nI n)] h Q := by
  have h6 := g.B6
  refine eX8_read hw s2 (fun p e s m args below meth c => ?_)
  rcases ixd a (qB A) (by omega) with ⟨b, hb, rfl⟩ | ha
  · have em : nI n - nI n / 2 * 2 = nI (n % 2) := by rw [lit 2, pk_rem (by omega) (by decide) (by decide)]
    have hm2 := Nat.mod_lt n (show 0 < 2 by decide)
    refine c_isBoat_y hw g k hb ⟨_, rfl, rfl, bN (by decide) ⟨fun z => hno (fun b' kk q e1 e2 => ?_), fun z => ⟨fun z2 => hno (fun b' kk q e1 e2 => ?_), fun z2 => ?_⟩⟩⟩
    · have z := (nI_ltI (b := 2) (by omega) (by decide)).mp z
      have := q.2.1
      omega
    · have z2 := (nI_ltI (a := 40) (by decide) (by omega)).mp z2
      have := q.2.2.1
      omega
    have z := mt (nI_ltI (b := 2) (by omega) (by decide)).mpr z
    have z2 := mt (nI_ltI (a := 40) (by decide) (by omega)).mpr z2
    rw [em]
    refine ⟨fun z3 => ?_, fun z3 => hno (fun b' kk q e1 e2 => z3 ?_)⟩
    rotate_left
    · rw [e2, show 2 * kk % 2 = 0 by omega]; rfl
    have z3 := (nI_eq (b := 0) (by omega) (by decide)).mp z3
    obtain ⟨K, hK⟩ : ∃ K, n = 2 * K := ⟨n / 2, by omega⟩
    subst hK
    have hno : ∀ i, i < K → ¬ (qW A (t (2 * i)) ∧ t (2 * i + 1) ≤ 1) → Q (some (.int 0)) h := fun i hi q => hno (fun b' kk q1 e1 e2 => q (q1.2.2.2 i (by omega)))
    have hy := fun (h' : gH) (q : ∀ i, i < K → qW A (t (2 * i)) ∧ t (2 * i + 1) ≤ 1) => hy b K h' rfl rfl ⟨hb, by omega, by omega, q⟩
    suffices H : ∀ r i, i + r = K → (∀ i', i' < i → qW A (t (2 * i')) ∧ t (2 * i' + 1) ≤ 1) → gg p l e s m args below meth c G (d + 1 + 1) MX8_read Q 36 [some (.ref 58), some (.int (nI b)), some (.ref 2), some (.int (nI (2 * K))), some (.int (nI (2 * i)))] [] h from H K 0 (by omega) (fun i hi => absurd hi (Nat.not_lt_zero _))
    intro r
    induction r with
    | zero =>
      intro i hi ho
      have : i = K := by omega
      subst this
      refine wX8_read_36 hw.1 hw.2.1 hw.2.2.1 s2 (bY (by rw [nI_1]; exact nI_le (by omega) (by omega)) ?_)
      rw [i_half _ (by omega), show 2 * i / 2 = i by omega]
      have e1 : gEq [58, 59, 60] h (sI (sI h 58 3 (nI b)) 58 4 (nI i)) := gE1 (by decide) (gE1 (by decide) (gEq.rf _ _))
      suffices H : ∀ r j h', j + r = i → gEq [58, 59, 60] h h' → h'.1 58 3 = nI b → h'.1 58 4 = nI i → (∀ j', j' < j → h'.1 59 j' = nI (t (2 * j')) ∧ h'.1 60 j' = nI (t (2 * j' + 1))) → gg p l e s m args below meth c G (d + 1 + 1) MX8_read Q 103 [some (.ref 58), some (.int (nI b)), some (.ref 2), some (.int (nI (2 * i))), some (.int (nI j))] [] h' from H i 0 _ (by omega) e1 (by rw [sI_nb (by decide), sI_s]) (sI_s _ _ _ _) (fun j hj => absurd hj (Nat.not_lt_zero _))
      intro r
      induction r with
      | zero =>
        intro j h' hj q1 q2 q3 q4
        have : j = i := by omega
        subst this
        have hwh := hw.eq q1
        exact wX8_read_103 hwh.1 hwh.2.1 hwh.2.2.1 s2 (bY (by rw [q3]; exact Int32.le_refl _) (hy h' ho q1 q2 q3 q4))
      | succ r ih =>
        intro j h' hj q1 q2 q3 q4
        have hwh := hw.eq q1
        have x2 := (q1.1 2 (by decide)).1
        refine wX8_read_103 hwh.1 hwh.2.1 hwh.2.2.1 s2 (bN (by rw [q3]; exact nI_ge (by omega) (by omega)) (bN (nI_ge (b := 20) (by omega) (by decide)) ?_))
        have e2 : (2 : Int32) * nI j = nI (2 * j) := by rw [lit 2, pk_mul]
        rw [e2, nI_1, nI_1, nI_clamp (show 2 * j < 2 ^ 31 by omega), nI_clamp (show 2 * j + 1 < 2 ^ 31 by omega), nI_clamp (show j < 2 ^ 31 by omega), sI_ne (by decide), x2, (ht (2 * j) (by omega)).1, (ht (2 * j + 1) (by omega)).1]
        refine bN (by rw [show Int32.ofNat 1600 = nI 1600 from rfl]; exact nI_ge (by omega) (by decide)) ⟨vp_in_nI (by omega) (by decide), vp_in_nI (by omega) (by decide), vp_in_nI (by omega) (by decide), vp_in_nI (by omega) (by decide), ih (j + 1) _ (by omega) (gE1 (by decide) (gE1 (by decide) q1)) (by rw [sI_ne (by decide), sI_ne (by decide)]; exact q2) (by rw [sI_ne (by decide), sI_ne (by decide)]; exact q3) (fun j' hj' => ?_)⟩
        by_cases ej : j' = j
        · subst ej
          exact ⟨by rw [sI_ne (by decide), sI_s], sI_s _ _ _ _⟩
        · obtain ⟨r1, r2⟩ := q4 j' (by omega)
          exact ⟨by rw [sI_ne (by decide), sI_nb ej]; exact r1, by rw [sI_nb ej, sI_ne (by decide)]; exact r2⟩
    | succ r ih =>
      intro i hi ho
      have v0 := ht (2 * i) (by omega)
      have v1 := ht (2 * i + 1) (by omega)
      refine wX8_read_36 hw.1 hw.2.1 hw.2.2.1 s2 (bN (by rw [nI_1]; exact nI_ge (by omega) (by omega)) (bN (by rw [nI_1, show Int32.ofNat 1600 = nI 1600 from rfl]; exact nI_ge (by omega) (by decide)) ⟨vp_in_nI (by omega) (by decide), ?_⟩))
      rw [nI_1, nI_clamp (show 2 * i < 2 ^ 31 by omega), nI_clamp (show 2 * i + 1 < 2 ^ 31 by omega), v0.1, show nI (2 * i) + 2 = nI (2 * (i + 1)) from nI_add _ 2]
      refine c_isWaterB hw g k (by omega) (fun w0 => ⟨_, rfl, rfl, bN (by decide) ?_⟩) (fun w0 => ⟨_, rfl, rfl, bY rfl (hno i (by omega) (fun q => w0 q.1))⟩)
      rw [v1.1]
      refine ⟨vp_in_nI (by omega) (by decide), fun y => ih (i + 1) (by omega) (fun i' hi' => ?_), fun y => hno i (by omega) (fun q => y (nI_le (b := 1) q.2 (by decide)))⟩
      by_cases ei : i' = i
      · subst ei; exact ⟨w0, (nI_leI (b := 1) (by omega) (by decide)).mp y⟩
      · exact ho i' (by omega)
  · exact c_isBoat_n hw g k ha ⟨_, rfl, rfl, bY rfl (hno (fun b kk q e1 e2 => ha b q.1 e1))⟩
theorem m_trialsL {p : Program} {e : Env} {s : State} {m : MethodId} {args : Array Value} {below : List Frame} {meth : Method} {c : Code} {b K : Nat} (hw : gWf h0 lk sp cd) (hb : b < 6) (hK : K ≤ 20) (ht : ∀ i, i < 1600 → h0.1 83 i = nI (t i) ∧ t i < 256) (hq : ∀ h', gEq [141] h0 h' → (∀ i, i < 2 * K → h'.1 141 i = nI (t i)) → Q (some (.int (nI K))) (sI (sI h' 82 76 (nI K)) 82 77 (nI b))) : ∀ r i h, i + r = 2 * K → gEq [141] h0 h → (∀ i', i' < i → h.1 141 i' = nI (t i')) → gg p l e s m args below meth c G (d + 1) MX12_trials Q 113 [some (.ref 82), some (.int (nI b)), some (.int (nI (2 * K))), some (.int 1), some (.int (nI i))] [] h := by
  intro r
  induction r with
  | zero =>
    intro i h hi e1 e2
    have : i = 2 * K := by omega
    subst this
    have hwh := hw.eq e1
    refine wX12_trials_113 hwh.1 hwh.2.1 hwh.2.2.1 (bY (Int32.le_refl _) ?_)
    rw [i_half _ (by omega), show 2 * K / 2 = K by omega]
    exact hq h e1 e2
  | succ r ih =>
    intro i h hi e1 e2
    have hwh := hw.eq e1
    refine wX12_trials_113 hwh.1 hwh.2.1 hwh.2.2.1 (bN (nI_ge (by omega) (by omega)) ?_)
    rw [nI_clamp (by omega), (e1.1 83 (by decide)).1, (ht i (by omega)).1, nI_1]
    refine ⟨vp_in_nI (by omega) (by decide), vp_in_nI (by omega) (by decide), ih (i + 1) _ (by omega) (gE1 (by decide) e1) (fun i' hi' => ?_)⟩
    by_cases ei : i' = i
    · subst ei; exact sI_s _ _ _ _
    · rw [sI_nb ei]; exact e2 i' (by omega)
theorem m_trials45 {p : Program} {e : Env} {s : State} {m : MethodId} {args : Array Value} {below : List Frame} {meth : Method} {c : Code} {b K : Nat} (hw : gWf h lk sp cd) (g : qG A) (k : LM A h) (hb : b < qB A) (hK1 : 1 ≤ K) (hK : K ≤ 20) (ht : ∀ i, i < 1600 → h.1 83 i = nI (t i) ∧ t i < 256)
    (hy : tOK A t b K → ∀ h', gEq [141] h h' → (∀ i, i < 2 * K → h'.1 141 i = nI (t i)) → Q (some (.int (nI K))) (sI (sI h' 82 76 (nI K)) 82 77 (nI b))) (hno : ¬ tOK A t b K → Q (some (.int (-1))) (sI h 84 1 (h.1 84 1 + 1))) : ∀ r i, i + r = K → (∀ i', i' < i → qW A (t (2 * i')) ∧ t (2 * i' + 1) ≤ 1) → gg p l e s m args below meth c G (d + 3 + 1) MX12_trials Q 45 [some (.ref 82), some (.int (nI b)), some (.int (nI (2 * K))), some (.int 1), some (.int (nI (2 * i)))] [] h := by
  have h6 := g.B6
  intro r
  induction r with
  | zero =>
    intro i hi ho
    have : i = K := by omega
    subst this
    refine wX12_trials_45 hw.1 hw.2.1 hw.2.2.1 (bY (Int32.le_refl _) (bN' (by decide) ?_))
    exact m_trialsL (d := d + 3) hw (by omega) hK ht (hy ⟨hb, hK1, hK, ho⟩) (2 * i) 0 h (by omega) (gEq.rf _ _) (fun i' hi' => absurd hi' (Nat.not_lt_zero _))
  | succ r ih =>
    intro i hi ho
    have v0 := ht (2 * i) (by omega)
    have v1 := ht (2 * i + 1) (by omega)
    have out : ∀ j : Nat, ¬ (qW A (t (2 * i)) ∧ t (2 * i + 1) ≤ 1) → gg p l e s m args below meth c G (d + 3 + 1) MX12_trials Q 45 [some (.ref 82), some (.int (nI b)), some (.int (nI (2 * K))), some (.int 0), some (.int (nI j))] [] h := fun j q => by
      have f := hno (fun q2 => q (q2.2.2.2 i (by omega)))
      exact wX12_trials_45 hw.1 hw.2.1 hw.2.2.1 ⟨fun _ => bY' rfl f, fun _ => bY rfl (bY' rfl f)⟩
    refine wX12_trials_45 hw.1 hw.2.1 hw.2.2.1 (bN (nI_ge (by omega) (by omega)) (bN (by decide) ⟨vp_in_nI (by omega) (by decide), ?_⟩))
    rw [nI_1, nI_clamp (show 2 * i < 2 ^ 31 by omega), nI_clamp (show 2 * i + 1 < 2 ^ 31 by omega), v0.1, show nI (2 * i) + 2 = nI (2 * (i + 1)) from nI_add _ 2]
    refine m_isWaterB hw g k (by omega) (fun w0 => ⟨_, rfl, rfl, bN (by decide) ?_⟩) (fun w0 => ⟨_, rfl, rfl, bY rfl (out _ (fun q => w0 q.1))⟩)
    rw [v1.1]
    refine ⟨vp_in_nI (by omega) (by decide), fun y => out _ (fun q => ?_), fun y => ih (i + 1) (by omega) (fun i' hi' => ?_)⟩
    · have y := (nI_leI (a := 2) (by decide) (by omega)).mp y
      have := q.2
      omega
    · have y := mt (nI_leI (a := 2) (by decide) (by omega)).mpr y
      by_cases ei : i' = i
      · subst ei; exact ⟨w0, by omega⟩
      · exact ho i' (by omega)
theorem st_trials : gStepI l G (gInv Rst) MX11_trials MX12_trials 1 := by
  intro n9 h av hn9 hl hi
  obtain ⟨a, rfl⟩ := one_of hl
  obtain ⟨lk, sp, cd, A, F, hw, g1, g2, g3, g4, ⟨T, hT, g5⟩, g6, g7, g8, g9⟩ := hi.2.2.2.2.2.2
  obtain ⟨⟨tn, tn1, tn2, tn3⟩, tb⟩ := hi.2.2.2.2.1
  have ht := fun i hi' => tpn_e (h := h) hi.2.2.2.2.1 (i := i) hi'
  generalize htt : tpn h = t at ht
  have h6 := g1.B6
  refine eX11_trials (d := 899) hw ?_
  rw [tn2]
  refine c_read hw g1 g2 tn1 (fun i hi => ⟨(ht i hi).1, (ht i hi).2.2⟩) (fun b K h1 ea en ok e1 v3 v4 v5 => ⟨_, rfl, e1.2, bN (by decide) ⟨_, rfl, ?_⟩⟩) (fun no => ⟨_, rfl, rfl, bY rfl (c_refuse 1 (by decide) (hw.eq (gEq.sI h 1 2 0)) ⟨_, rfl, rfl, _, rfl, ?_⟩)⟩)
  · subst ea en
    obtain ⟨hb, hK1, hK, hok⟩ := id ok
    rw [v4]
    have e2 : gEq [58, 59, 60, 1] h (sI h1 1 2 0) := (e1.tr (gEq.sI _ _ _ _)).mono (fun x hx => hx)
    have x58 : (sI h1 1 2 0).1 58 = h1.1 58 := sI_na (by decide)
    have x59 : (sI h1 1 2 0).1 59 = h1.1 59 := sI_na (by decide)
    have x60 : (sI h1 1 2 0).1 60 = h1.1 60 := sI_na (by decide)
    have x12 : (sI h1 1 2 0).1 1 2 = nI 0 := sI_s _ _ _ _
    have x1j : ∀ j, j ≠ 2 → (sI h1 1 2 0).1 1 j = h.1 1 j := fun j hj => by rw [sI_nb hj, (e1.1 1 (by decide)).1]
    generalize sI h1 1 2 0 = h2 at e2 x58 x59 x60 x12 x1j ⊢
    have hw2 := hw.eq e2
    have c82 := e2.1 82 (by decide)
    refine eX12_trials (d := 899) hw2 (fun p e s m args below meth c => ?_)
    rw [c82.1, tn3]
    have e3 : gEq [82] h2 (sI h2 82 1 0) := gEq.sI _ _ _ _
    have y1 : (sI h2 82 1 0).1 82 1 = nI 0 := sI_s _ _ _ _
    have yj : ∀ j, j ≠ 1 → (sI h2 82 1 0).1 82 j = h.1 82 j := fun j hj => by rw [sI_nb hj, c82.1]
    have yl : (sI h2 82 1 0).2.1 82 = h.2.1 82 := c82.2
    generalize sI h2 82 1 0 = h3 at e3 y1 yj yl ⊢
    have e4 : gEq [58, 59, 60, 1, 82] h h3 := (e2.tr e3).mono (fun x hx => by simp at hx ⊢; omega)
    have hw3 := hw.eq e4
    have lm3 : LM A h3 := g3.cg (fun x hx => e4.1 x (fun z => by simp at hx z; omega)) (yj 58 (by decide))
    have q83 := (e4.1 83 (by decide)).1
    have em : nI (2 * K) - nI (2 * K) / 2 * 2 = nI (2 * K % 2) := by rw [lit 2, pk_rem (by omega) (by decide) (by decide)]
    refine m_isBoat_y hw3 g1 lm3 hb ⟨_, rfl, rfl, bN (by decide) (bN (fun z => ?_) ?_)⟩
    · have := (nI_leI (b := 0) (by omega) (by decide)).mp z
      omega
    rw [em, i_half _ (by omega), show 2 * K % 2 = 0 by omega, show 2 * K / 2 = K by omega]
    refine bY' rfl (bN (nI_nlt (a := 20) (by omega) (by omega)) ?_)
    refine m_trials45 (d := 896) hw3 g1 lm3 hb hK1 hK (fun i hi => by rw [q83]; exact (ht i hi).2) (fun _ h4 e5 z5 => ⟨_, rfl, rfl, ?_⟩) (fun no => absurd ok no) K 0 (by omega) (fun i hi => absurd hi (Nat.not_lt_zero _))
    have e6 : gEq [58, 59, 60, 1, 82, 141] h (sI (sI h4 82 76 (nI K)) 82 77 (nI b)) := (((e4.tr e5).tr (gEq.sI _ 82 76 (nI K))).tr (gEq.sI _ 82 77 (nI b))).mono (fun x hx => by simp at hx ⊢; omega)
    have k82 := e5.1 82 (by decide)
    have r76 : (sI (sI h4 82 76 (nI K)) 82 77 (nI b)).1 82 76 = nI K := by rw [sI_nb (by decide), sI_s]
    have r77 : (sI (sI h4 82 76 (nI K)) 82 77 (nI b)).1 82 77 = nI b := sI_s _ _ _ _
    have rj : ∀ j, j ≠ 76 → j ≠ 77 → (sI (sI h4 82 76 (nI K)) 82 77 (nI b)).1 82 j = h3.1 82 j := fun j h1 h2 => by rw [sI_nb h2, sI_nb h1, k82.1]
    have rl : (sI (sI h4 82 76 (nI K)) 82 77 (nI b)).2.1 82 = h.2.1 82 := by
      show h4.2.1 82 = _
      rw [k82.2, yl]
    have ro : ∀ x, x ≠ 82 → x ≠ 141 → (sI (sI h4 82 76 (nI K)) 82 77 (nI b)).1 x = h2.1 x := fun x n1 n2 => by rw [sI_na n1, sI_na n1, (e5.1 x (by simp [n2])).1, (e3.1 x (by simp [n1])).1]
    have r141 : ∀ i, i < 2 * K → (sI (sI h4 82 76 (nI K)) 82 77 (nI b)).1 141 i = nI (t i) := fun i hi => by rw [sI_ne (by decide), sI_ne (by decide)]; exact z5 i hi
    generalize sI (sI h4 82 76 (nI K)) 82 77 (nI b) = h5 at e6 r76 r77 rj rl ro r141 ⊢
    obtain ⟨j1, j2, j3, j4, j5, j6, j7⟩ := hi
    have es : ∀ j, j ≠ 1 → j ≠ 76 → j ≠ 77 → h5.1 82 j = h.1 82 j := fun j n1 n2 n3 => by rw [rj j n2 n3, yj j n1]
    refine ⟨j1.eq e6.2, fun i hi9 => ?_, ⟨?_, ?_⟩, ?_, ⟨⟨0, by decide, ?_, ?_⟩, fun i hi9 => ?_⟩, ?_, lk, sp, cd, A, F, hw.eq e6, g1, ?_, ?_, g4, ⟨T, by omega, ?_⟩, ?_, ?_, ?_, ⟨K, by omega, ?_, r76, fun _ => ⟨b, hb, ?_, r77⟩, fun i hi9 => ⟨t (2 * i), t (2 * i + 1), (hok i hi9).1.1, (hok i hi9).1.2, (hok i hi9).2, ?_, r141 _ (by omega), ?_, r141 _ (by omega)⟩⟩, ?_⟩
    · rw [(e6.1 66 (by decide)).1, (e6.1 84 (by decide)).1]
      exact j2 i hi9
    · rw [ro 1 (by decide) (by decide), x1j 8 (by decide), es 7 (by decide) (by decide) (by decide)]
      exact j3.1
    · rw [ro 1 (by decide) (by decide), x1j 9 (by decide), es 8 (by decide) (by decide) (by decide)]
      exact j3.2
    · unfold I_pic
      rw [(e6.1 0 (by decide)).1, es 116 (by decide) (by decide) (by decide), (e6.1 65 (by decide)).1, (e6.1 167 (by decide)).1]
      exact j4
    · rw [ro 1 (by decide) (by decide)]
      exact x12
    · rw [rj 1 (by decide) (by decide)]
      exact y1
    · rw [(e6.1 83 (by decide)).1, (e6.1 2 (by decide)).1]
      exact j5.2 i hi9
    · unfold I_sed
      rw [(e6.1 0 (by decide)).2, rl]
      exact j6
    · exact g2.eq hw e6 (fun x hx => by simp at hx; omega)
    · exact g3.cg (fun x hx => e6.1 x (fun z => by simp at hx z; omega)) (es 58 (by decide) (by decide) (by decide))
    · rw [(e6.1 7 (by decide)).1]
      exact g5
    · rw [(e6.1 133 (by decide)).1]
      exact g6
    · rw [(e6.1 6 (by decide)).1]
      exact g7
    · have pr : ∀ j, j < 20 → 9 + j ∉ [58, 59, 60, 1, 82, 141] := by decide
      exact g8.cg (e6.1 6 (by decide)).1 (fun j hj => (e6.1 _ (pr j hj)).1) (e6.1 142 (by decide)).1 (es 80 (by decide) (by decide) (by decide)) (es 81 (by decide) (by decide) (by decide))
    · rw [ro 58 (by decide) (by decide), x58]
      exact v4
    · rw [ro 58 (by decide) (by decide), x58]
      exact v3
    · rw [ro 59 (by decide) (by decide), x59]
      exact (v5 i hi9).1
    · rw [ro 60 (by decide) (by decide), x60]
      exact (v5 i hi9).2
    · exact g9.2.cg (fun k hk => (e6.1 k (fun z => by
        have : ∀ k, k ∈ gWds → k ∉ [58, 59, 60, 1, 82, 141] := by decide
        exact this k hk z)).1)
  · have e1 : gEq [1, 66] h (sI (sI h 1 2 0) 66 1 ((sI h 1 2 0).1 66 1 + 1)) := ((gEq.sI h 1 2 0).tr (gEq.sI _ _ _ _)).mono (fun x hx => hx)
    refine eX12_trials (d := 899) (hw.eq e1) (fun p e s m args below meth c => ?_)
    have v82 : (sI (sI h 1 2 0) 66 1 ((sI h 1 2 0).1 66 1 + 1)).1 82 1 = nI tn := tn3
    rw [v82]
    have e2 : gEq [1, 66, 82] h (sI (sI (sI h 1 2 0) 66 1 ((sI h 1 2 0).1 66 1 + 1)) 82 1 0) := (e1.tr (gEq.sI _ _ _ _)).mono (fun x hx => hx)
    have lm2 : LM A (sI (sI (sI h 1 2 0) 66 1 ((sI h 1 2 0).1 66 1 + 1)) 82 1 0) := g3.cg (fun x hx => e2.1 x (fun z => by simp at hx z; omega)) (by rw [sI_nb (by decide), sI_ne (by decide), sI_ne (by decide)])
    have fin : gInv Rst (n9 + 1) (sI (sI (sI (sI h 1 2 0) 66 1 ((sI h 1 2 0).1 66 1 + 1)) 82 1 0) 84 1 ((sI (sI (sI h 1 2 0) 66 1 ((sI h 1 2 0).1 66 1 + 1)) 82 1 0).1 84 1 + 1)) := by
      rw [sI_ne (by decide), sI_ne (by decide), sI_ne (by decide), sI_ne (by decide)]
      exact inv_tref 1 hi
    have hw2 := hw.eq e2
    have q83 := (e2.1 83 (by decide)).1
    generalize sI (sI (sI h 1 2 0) 66 1 ((sI h 1 2 0).1 66 1 + 1)) 82 1 0 = h2 at e2 lm2 fin hw2 q83 ⊢
    have out : ∀ j : Int32, gg p l e s m args below meth c G (899 + 1) MX12_trials (rI fun v2 h2 => -1 = v2 ∧ gInv Rst (n9 + 1) h2) 45 [some (.ref 82), some (.int a), some (.int (nI tn)), some (.int 0), some (.int j)] [] h2 := fun j => wX12_trials_45 hw2.1 hw2.2.1 hw2.2.2.1 ⟨fun _ => bY' rfl ⟨_, rfl, rfl, fin⟩, fun _ => bY rfl (bY' rfl ⟨_, rfl, rfl, fin⟩)⟩
    rcases ixd a (qB A) (by omega) with ⟨b, hb, rfl⟩ | ha
    · refine m_isBoat_y hw2 g1 lm2 hb ⟨_, rfl, rfl, bN (by decide) ⟨fun _ => out 0, fun z => ?_⟩⟩
      have z := mt (nI_leI (b := 0) (by omega) (by decide)).mpr z
      have em : nI tn - nI tn / 2 * 2 = nI (tn % 2) := by rw [lit 2, pk_rem (by omega) (by decide) (by decide)]
      rw [em, i_half _ (by omega)]
      refine ⟨fun _ => out 0, fun z2 => ⟨fun _ => out 0, fun z3 => ?_⟩⟩
      have z2 := (nI_eq (b := 0) (by omega) (by decide)).mp z2
      have z3 := mt (nI_ltI (a := 20) (by decide) (by omega)).mpr z3
      obtain ⟨K, hK⟩ : ∃ K, tn = 2 * K := ⟨tn / 2, by omega⟩
      subst hK
      exact m_trials45 (d := 896) hw2 g1 lm2 hb (by omega) (by omega) (fun i hi => by rw [q83]; exact (ht i hi).2) (fun ok => absurd rfl (no b K ok rfl)) (fun _ => ⟨_, rfl, rfl, fin⟩) K 0 (by omega) (fun i hi => absurd hi (Nat.not_lt_zero _))
    · exact m_isBoat_n hw2 g1 lm2 ha ⟨_, rfl, rfl, bY rfl (out 0)⟩
end TL
