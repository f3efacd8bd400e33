section FI
variable {l : Launch} {G : gG} {d : Nat} {Q : Option Value → gH → Prop} {h h0 : gH} {lk sp : Nat} {cd : Option Nat} {A F : qT} {T n : Nat} {t : Nat → Nat}
theorem inv_mk {n : Nat} {h h2 : gH} (hi : gInv Rst n h) (hr : Rst (n + 1) h2) (er : h2.2.2 = h.2.2) (e : ∀ x, x ∈ [0, 2, 65, 66, 83, 84, 167] → h2.1 x = h.1 x ∧ h2.2.1 x = h.2.1 x) (e8 : h2.1 1 8 = h.1 1 8) (e9 : h2.1 1 9 = h.1 1 9) (s : ∀ j, j ∈ [7, 8, 116] → h2.1 82 j = h.1 82 j) (el : h2.2.1 82 82 = h.2.1 82 82) (tp : ∃ n, n ≤ 1600 ∧ h2.1 1 2 = nI n ∧ h2.1 82 1 = nI n) : gInv Rst (n + 1) h2 := by
  obtain ⟨j1, j2, j3, j4, j5, j6, j7⟩ := hi
  refine ⟨j1.eq er, fun i hi9 => ?_, ⟨?_, ?_⟩, ?_, ⟨tp, fun i hi9 => ?_⟩, ?_, hr⟩
  · rw [(e 66 (by decide)).1, (e 84 (by decide)).1]
    exact j2 i hi9
  · rw [e8, s 7 (by decide)]
    exact j3.1
  · rw [e9, s 8 (by decide)]
    exact j3.2
  · unfold I_pic
    rw [(e 0 (by decide)).1, s 116 (by decide), (e 65 (by decide)).1, (e 167 (by decide)).1]
    exact j4
  · rw [(e 83 (by decide)).1, (e 2 (by decide)).1]
    exact j5.2 i hi9
  · unfold I_sed
    rw [(e 0 (by decide)).2, el]
    exact j6
theorem Rst.frame {n : Nat} {h h1 : gH} {lk sp : Nat} {cd : Option Nat} {A F : qT} {T w u : Nat} {L : List Nat} (e : gEq L h h1) (hL : ∀ x, x ∈ L → x ∉ gRc ∧ x ≠ 58) (e82 : ∀ j, j ∈ gRs → h1.1 82 j = h.1 82 j) (hw : gWf h lk sp cd)
    (g2 : LC A lk h) (g3 : LM A h) (g5 : FC (qB A) F T (h.1 7)) (g6 : FM (qB A) F (h.1 133)) (g7 : h.1 6 3 = nI (qB A)) (u1 : h.1 6 2 = nI w) (u2 : h.1 82 81 = nI w) (u3 : h.1 6 4 = nI u) (u4 : h.1 82 80 = nI u)
    (ru : ∀ i, i < u → ∃ F T, T ≤ 300 * n ∧ fG A F ∧ FC (qB A) F T (h.1 (9 + (w + 20 - i) % 20)) ∧ FM (qB A) F (fun j => h.1 142 (187 * ((w + 20 - i) % 20) + j))) (g9 : RT A h) :
    LC A lk h1 ∧ LM A h1 ∧ FC (qB A) F T (h1.1 7) ∧ FM (qB A) F (h1.1 133) ∧ h1.1 6 3 = nI (qB A) ∧ h1.1 6 2 = nI w ∧ h1.1 82 81 = nI w ∧ h1.1 6 4 = nI u ∧ h1.1 82 80 = nI u ∧ (∀ i, i < u → ∃ F T, T ≤ 300 * n ∧ fG A F ∧ FC (qB A) F T (h1.1 (9 + (w + 20 - i) % 20)) ∧ FM (qB A) F (fun j => h1.1 142 (187 * ((w + 20 - i) % 20) + j))) ∧ RT A h1 := by
  have ek : ∀ x, x ∈ gRc → h1.1 x = h.1 x ∧ h1.2.1 x = h.2.1 x := fun x hx => e.1 x (fun z => (hL x z).1 hx)
  have lkr : ∀ k, k = 30 ∨ k = 67 → ∀ j, j < 15 → k + j ∈ gRc := by
    rintro k (rfl | rfl) <;> decide
  have lmr : ∀ k, k ∈ [119, 120, 121, 122, 123, 124, 125, 126, 127, 128, 129] → k ∈ gRc := by decide
  have pr : ∀ j, j < 20 → 9 + j ∈ gRc := by decide
  have e58 := (e.1 58 (fun z => (hL 58 z).2 rfl)).1
  refine ⟨g2.cg (fun j hj => (ek _ (lkr lk hw.2.1 j hj)).1), g3.cg (fun x hx => ek x (lmr x hx)) (e82 58 (by decide)), by rw [(ek 7 (by decide)).1]; exact g5, by rw [(ek 133 (by decide)).1]; exact g6, by rw [(ek 6 (by decide)).1]; exact g7, by rw [(ek 6 (by decide)).1]; exact u1, by rw [e82 81 (by decide)]; exact u2, by rw [(ek 6 (by decide)).1]; exact u3, by rw [e82 80 (by decide)]; exact u4, fun i hi => ?_, ?_⟩
  · obtain ⟨F2, T2, c1, c2, c3, c4⟩ := ru i hi
    exact ⟨F2, T2, c1, c2, by rw [(ek _ (pr _ (Nat.mod_lt _ (by decide)))).1]; exact c3, by rw [(ek 142 (by decide)).1]; exact c4⟩
  · exact g9.cg (by rw [e58]) (by rw [e58]) (ek 59 (by decide)).1 (ek 60 (by decide)).1 (ek 141 (by decide)).1 (e82 76 (by decide)) (e82 77 (by decide)) (fun k hk => (ek k (gWds_c k hk)).1)
theorem st_file : gStepI l G (gInv Rst) MX11_file MX12_file 1 := by
  intro n9 h av hn9 hl hi
  obtain ⟨a, rfl⟩ := one_of hl
  obtain ⟨lk, sp, cd, A, F, hw, g1, g2, g3, g4, ⟨T, hT, g5⟩, g6, g7, ⟨w, u, w20, u20, u1, u2, u3, u4, ru⟩, g9⟩ := hi.2.2.2.2.2.2
  obtain ⟨⟨tn, tn1, tn2, tn3⟩, tb⟩ := hi.2.2.2.2.1
  have ht := fun i hi' => tpn_e (h := h) hi.2.2.2.2.1 (i := i) hi'
  generalize htt : tpn h = t at ht
  have h6 := g1.B6
  have hp : 2 ^ qB A ≤ 2 ^ 6 := Nat.pow_le_pow_right (by decide) h6
  -- the class, its tape laid down
  have e0 : gEq [1] h (sI h 1 2 0) := gEq.sI _ _ _ _
  have fr := Rst.frame (n := n9) e0 (by decide) (fun j hj => by rw [sI_ne (by decide)]) hw g2 g3 g5 g6 g7 u1 u2 u3 u4 ru g9
  have hw0 := hw.eq e0
  have x1 : (sI h 1 2 0).1 1 2 = nI 0 := sI_s _ _ _ _
  have xj : ∀ j, j ≠ 2 → (sI h 1 2 0).1 1 j = h.1 1 j := fun j hj => sI_nb hj
  have tref := inv_tref 2 hi
  have mz : ∀ {P : Prop}, (∀ x, ¬ cTry A F 0 x) := fun {P} x q => absurd q.1 (by decide)
  refine eX11_file (d := 899) hw ?_
  rw [tn2]
  generalize hh0 : sI h 1 2 0 = hA at e0 fr hw0 x1 xj tref ⊢
  obtain ⟨l2, l3, l5, l6, l7, l8, l9, l10, l11, l12, l13⟩ := fr
  have kA : KC A F T lk hA := ⟨g1, l2, g4, l5, l7, by omega⟩
  have mA : KM A F hA := ⟨g1, l3, g4, l6⟩
  have tA : ∀ i, i < 1600 → hA.1 2 i = nI (t i) ∧ t i < 256 := fun i hi => by rw [(e0.1 2 (by decide)).1]; exact ⟨(ht i hi).1, (ht i hi).2.2⟩
  have a82 := e0.1 82 (by decide)
  -- both refuse
  have mref : ∀ h', gEq [82, 137] (sI hA 66 2 (hA.1 66 2 + 1)) h' → (∀ j, j ≠ 1 → h'.1 82 j = h.1 82 j) → h'.1 82 1 = nI 0 → h'.2.1 82 = h.2.1 82 → gC l G 899 MX12_refuses [.ref 82, .int (nI 2)] h' (rI fun v1 h1 => h1.2.2 = h'.2.2 ∧ ∃ v', some (Value.int v1) = some (.int v') ∧ -1 = v' ∧ gInv Rst (n9 + 1) h1) := fun h' e1 y1 y2 y3 => by
    have hwA := hw0.eq (gEq.sI hA 66 2 (hA.1 66 2 + 1))
    refine c_refuses 2 (by decide) (hwA.eq e1) ⟨_, rfl, rfl, _, rfl, rfl, ?_⟩
    have e2 : gEq [1, 66, 82, 137, 84] h (sI h' 84 2 (h'.1 84 2 + 1)) := (((e0.tr (gEq.sI hA 66 2 _)).tr e1).tr (gEq.sI _ 84 2 _)).mono (fun x hx => by simp at hx ⊢; omega)
    have y4 : h'.1 84 = h.1 84 := by rw [(e1.1 84 (by decide)).1, sI_na (by decide), (e0.1 84 (by decide)).1]
    have y5 : h'.1 66 = (sI hA 66 2 (hA.1 66 2 + 1)).1 66 := (e1.1 66 (by decide)).1
    have y6 : hA.1 66 = h.1 66 := (e0.1 66 (by decide)).1
    have y7 : h'.1 1 = hA.1 1 := by rw [(e1.1 1 (by decide)).1, sI_na (by decide)]
    obtain ⟨j1, j2, j3, j4, j5, j6, j7⟩ := hi
    refine ⟨j1.eq e2.2, fun i hi9 => ?_, ⟨?_, ?_⟩, ?_, ⟨⟨0, by decide, ?_, ?_⟩, fun i hi9 => ?_⟩, ?_, ?_⟩
    · rw [sI_ne (by decide), y5]
      by_cases ei : i = 2
      · subst ei
        rw [sI_s, sI_s, y4, y6, j2 2 hi9]
      · rw [sI_nb ei, sI_nb ei, y4, y6]
        exact j2 i hi9
    · rw [sI_ne (by decide), sI_ne (by decide), y7, xj 8 (by decide), y1 7 (by decide)]
      exact j3.1
    · rw [sI_ne (by decide), sI_ne (by decide), y7, xj 9 (by decide), y1 8 (by decide)]
      exact j3.2
    · unfold I_pic
      rw [(e2.1 0 (by decide)).1, sI_ne (by decide), y1 116 (by decide), (e2.1 65 (by decide)).1, (e2.1 167 (by decide)).1]
      exact j4
    · rw [sI_ne (by decide), y7, x1]
    · rw [sI_ne (by decide)]
      exact y2
    · rw [(e2.1 83 (by decide)).1, (e2.1 2 (by decide)).1]
      exact j5.2 i hi9
    · unfold I_sed
      rw [(e2.1 0 (by decide)).2]
      show _ = h'.2.1 82 82 ∧ _
      rw [y3]
      exact j6
    · refine j7.eq e2 (by decide) (fun j hj => ?_) (by rw [(e2.1 58 (by decide)).1]) (by rw [(e2.1 58 (by decide)).1])
      rw [sI_ne (by decide)]
      exact y1 j (fun z => by subst z; revert hj; decide)
  -- the model refuses
  have mm : (∀ m x, tset A t tn = some m → 1 ≤ tn → cTry A F m x → a ≠ nI x) → gC l G 900 MX12_file [.ref 82, .int a] (sI hA 66 2 (hA.1 66 2 + 1)) (fun r h' => ∃ v'', r = some (.int v'') ∧ -1 = v'' ∧ gInv Rst (n9 + 1) h') := fun no => by
    have hwA := hw0.eq (gEq.sI hA 66 2 (hA.1 66 2 + 1))
    have v82 : (sI hA 66 2 (hA.1 66 2 + 1)).1 82 = h.1 82 := by rw [sI_na (by decide), a82.1]
    refine eX12_file (d := 899) hwA (fun p e s m args below meth c => ?_)
    rw [v82, tn3]
    have e3 : gEq [82, 137] (sI hA 66 2 (hA.1 66 2 + 1)) (sI (sI hA 66 2 (hA.1 66 2 + 1)) 82 1 0) := gE1 (by decide) (gEq.rf _ _)
    have y1 : ∀ j, j ≠ 1 → (sI (sI hA 66 2 (hA.1 66 2 + 1)) 82 1 0).1 82 j = h.1 82 j := fun j hj => by rw [sI_nb hj, v82]
    have y2 : (sI (sI hA 66 2 (hA.1 66 2 + 1)) 82 1 0).1 82 1 = nI 0 := sI_s _ _ _ _
    have y3 : (sI (sI hA 66 2 (hA.1 66 2 + 1)) 82 1 0).2.1 82 = h.2.1 82 := a82.2
    have mB : KM A F (sI (sI hA 66 2 (hA.1 66 2 + 1)) 82 1 0) := (mA.eq (gEq.sI hA 66 2 _) (by decide) rfl).eq (gEq.sI _ 82 1 0) (by decide) (by rw [sI_nb (by decide)])
    have q83 : (sI (sI hA 66 2 (hA.1 66 2 + 1)) 82 1 0).1 83 = h.1 83 := by rw [sI_na (by decide), sI_na (by decide), (e0.1 83 (by decide)).1]
    generalize sI (sI hA 66 2 (hA.1 66 2 + 1)) 82 1 0 = hB at e3 y1 y2 y3 mB q83 ⊢
    have hwB := hwA.eq e3
    have tref0 : ∀ h', gEq [137] hB h' → gC l G 899 MX12_refuses [.ref 82, .int (nI 2)] h' (rI fun v1 h1 => h1.2.2 = h'.2.2 ∧ ∃ v', some (Value.int v1) = some (.int v') ∧ -1 = v' ∧ gInv Rst (n9 + 1) h1) := fun h' e4 => mref h' ((e3.tr e4).mono (fun x hx => by simp at hx ⊢; omega)) (fun j hj => by rw [(e4.1 82 (by decide)).1]; exact y1 j hj) (by rw [(e4.1 82 (by decide)).1]; exact y2) (by rw [(e4.1 82 (by decide)).2]; exact y3)
    by_cases hn6 : 1 ≤ tn ∧ tn ≤ 6
    · refine c_isInI 1 6 hwB (fun _ _ => ⟨_, rfl, rfl, ?_⟩) (fun z => absurd ⟨nI_le (a := 1) hn6.1 (by omega), nI_le (b := 6) hn6.2 (by decide)⟩ z)
      refine m_fileL (d := 896) hwB g1 mB.l hn6.1 hn6.2 (fun i hi => by rw [q83]; exact (ht i hi).2) (fun M h' hM e4 v4 => ?_) (fun h' _ e4 => tref0 h' e4) tn 0 0 hB (by omega) rfl (gEq.rf _ _) (fun i hi => absurd hi (Nat.not_lt_zero _))
      have mC : KM A F h' := mB.eq e4 (by decide) (by rw [(e4.1 82 (by decide)).1])
      obtain ⟨p1, p2, p3⟩ := tset_p g1 tn M hM
      refine m_canFile (hwB.eq e4) mC (fun m2 x em ex q => ?_) (fun _ => ⟨_, rfl, rfl, bY' rfl (tref0 h' e4)⟩)
      have := q.2.1
      rw [← (nI_eq (by omega) (by omega)).mp em] at q
      exact absurd ex (no M x hM hn6.1 q)
    · refine c_isInI 1 6 hwB (fun z1 z2 => ?_) (fun _ => ⟨_, rfl, rfl, ?_⟩)
      · have z1 := (nI_leI (a := 1) (by decide) (by omega)).mp z1
        have z2 := (nI_leI (b := 6) (by omega) (by decide)).mp z2
        exact absurd ⟨z1, z2⟩ hn6
      · have f := tref0 hB (gEq.rf _ _)
        exact wX12_file_26 hwB.1 hwB.2.1 hwB.2.2.1 ⟨fun _ => bY rfl f, fun _ => bY rfl (bY rfl f)⟩
  have cref : (∀ m x, tset A t tn = some m → 1 ≤ tn → cTry A F m x → a ≠ nI x) → gC l G 899 MX11_refuse [.ref 0, .int (nI 2)] hA (rI fun v1 h1 => h1.2.2 = hA.2.2 ∧ ∃ v', some (Value.int v1) = some (.int v') ∧ gC l G 900 MX12_file [.ref 82, .int a] h1 (fun r h' => ∃ v'', r = some (.int v'') ∧ v' = v'' ∧ gInv Rst (n9 + 1) h')) := fun no => c_refuse 2 (by decide) hw0 ⟨_, rfl, rfl, _, rfl, mm no⟩
  refine c_bitsOfTape hw0 g1 l2 tn1 tA (fun M hM => ⟨_, rfl, rfl, ?_⟩) (fun hM => ⟨_, rfl, rfl, c_canTry hw0 kA (fun m x em ex q => ?_) (fun _ => ⟨_, rfl, rfl, bY' rfl (cref (fun m x q => by rw [hM] at q; cases q))⟩)⟩)
  rotate_left
  · have := q.2.1
    have h0 := (nI_eq (a := 0) (by decide) (by omega)).mp em
    have := q.1
    omega
  obtain ⟨p1, p2, p3⟩ := tset_p g1 tn M hM
  have bc6 : bc M ≤ 6 := by unfold bc; omega
  refine c_canTry hw0 kA (fun m x em ex q => ⟨_, rfl, rfl, bN' (by decide) (c_remember hw0 kA w20 u20 l8 l10 (fun h1 a1 => ⟨rfl, a1.1.2, ?_⟩))⟩) (fun no => ⟨_, rfl, rfl, bY' rfl (cref (fun m x q _ q2 => ?_))⟩)
  rotate_left
  · rw [hM] at q
    rw [← Option.some.inj q] at q2
    exact no M x q2 rfl
  subst ex
  have hm := q.2.1
  rw [← (nI_eq (by omega) (by omega)).mp em] at q
  have hq := q
  obtain ⟨q1, q2, f, q3, q4, q5⟩ := q
  have n1 : 1 ≤ tn := by
    rcases Nat.eq_zero_or_pos tn with z | z
    · rw [z] at hM
      have : 0 = M := Option.some.inj hM
      omega
    · exact z
  have k1 : KC A F T lk h1 := ⟨g1, l2.eq hw0 a1.1 (fun x hx => by simp at hx; omega), g4, a1.2.2.2.2.2, by rw [a1.2.2.2.1]; exact l7, by omega⟩
  have x2 := (a1.1.1 2 (fun z => by simp at z; omega)).1
  refine c_sendFile (hw0.eq a1.1) k1 (by omega) (by omega) q5.1 (fun i hi => by rw [x2]; exact ⟨(tA i (by omega)).1, p3 i hi⟩) (fun h2 T2 e2 k2 hT2 => ⟨_, rfl, e2.2, _, rfl, ?_⟩)
  have gR := k2.f
  have a2 : AC [45, 46, 48] (qB A) w u (flr A t x tn 0 (F, 0, 0)).1 T2 hA h2 := (a1.wk (Sc := [45, 46, 48])).upd e2 (fun x hx => by simp at hx ⊢; omega) scrA.s k2.x
  have w9 : (w + 1) % 20 < 20 := Nat.mod_lt _ (by decide)
  have hw2 := hw0.eq a2.1
  have c82 := a2.1.1 82 (fun z => by simp at z; omega)
  have c133 := (a2.1.1 133 (fun z => by simp at z; omega)).1
  refine eX12_file (d := 899) hw2 (fun p e s m' args below meth c => ?_)
  rw [c82.1, a82.1, tn3]
  have e3 : gEq [82] h2 (sI h2 82 1 0) := gEq.sI _ _ _ _
  have y1 : ∀ j, j ≠ 1 → (sI h2 82 1 0).1 82 j = h.1 82 j := fun j hj => by rw [sI_nb hj, c82.1, a82.1]
  have y2 : (sI h2 82 1 0).1 82 1 = nI 0 := sI_s _ _ _ _
  have y3 : (sI h2 82 1 0).2.1 82 = h.2.1 82 := c82.2.trans a82.2
  generalize sI h2 82 1 0 = hB at e3 y1 y2 y3 ⊢
  have hwB := hw2.eq e3
  have e4 : gEq [6, 7, 9 + (w + 1) % 20, 45, 46, 48, 82] hA hB := (a2.1.tr e3).mono (fun x hx => by simp at hx ⊢; omega)
  have mB : KM A F hB := ⟨g1, l3.cg (fun x hx => e4.1 x (fun z => by simp at hx z; omega)) (by rw [y1 58 (by decide), a82.1]), g4, by rw [(e4.1 133 (fun z => by simp at z; omega)).1]; exact l6⟩
  have q83 : hB.1 83 = h.1 83 := by rw [(e4.1 83 (fun z => by simp at z; omega)).1, (e0.1 83 (by decide)).1]
  refine c_isInI 1 6 hwB (fun _ _ => ⟨_, rfl, rfl, ?_⟩) (fun z => absurd ⟨nI_le (a := 1) n1 (by omega), nI_le (b := 6) (by omega) (by decide)⟩ z)
  refine m_fileL (d := 896) hwB g1 mB.l n1 (by omega) (fun i hi => by rw [q83]; exact (ht i hi).2) (fun M' h3 hM' e5 v5 => ?_) (fun h' q _ => by rw [hM] at q; cases q) tn 0 0 hB (by omega) rfl (gEq.rf _ _) (fun i hi => absurd hi (Nat.not_lt_zero _))
  rw [hM] at hM'
  have eM : M = M' := Option.some.inj hM'
  subst eM
  have k82 := e5.1 82 (by decide)
  have mC : KM A F h3 := mB.eq e5 (by decide) (by rw [k82.1])
  have hw3 := hwB.eq e5
  refine m_canFile hw3 mC (fun _ _ _ _ _ => ⟨_, rfl, rfl, bN' (by decide) (m_keeps hw3 mC w20 u20 (by rw [k82.1, y1 81 (by decide)]; exact u2) (by rw [k82.1, y1 80 (by decide)]; exact u4) (fun h4 b1 b2 b3 => ⟨rfl, b1.1.2, ?_⟩))⟩) (fun no => absurd rfl (no M x hq rfl))
  have lm4 : LM A h4 := mC.l.cg (fun x hx => b1.1.1 x (fun z => by simp at hx z; omega)) (b1.2.2.2.1 58 (by decide))
  have m4 : KM A F h4 := ⟨g1, lm4, g4, b1.2.2.2.2.2.2⟩
  have hw4 := hw3.eq b1.1
  refine m_files hw4 m4 (by omega) q5.1 (fun i hi => by rw [(b1.1.1 137 (by decide)).1]; exact ⟨v5 i hi, p3 i hi⟩) (fun h5 e6 k6 => ⟨_, rfl, e6.1.2, _, rfl, rfl, ?_⟩)
  have scF : scr2 [131, 132, 137] := by unfold scr2; decide
  -- from the class's heap on
  have b0 : AM [131, 132, 137] (qB A) w u F h2 h4 := by
    obtain ⟨d1, d2, d3, d4, d5, d6, d7⟩ := b1
    have e7 : gEq [82, 137] h2 h3 := (e3.tr e5).mono (fun x hx => by simp at hx ⊢; omega)
    refine ⟨(e7.tr d1).mono (fun x hx => by simp at hx ⊢; omega), d2, d3, fun j hj => ?_, fun j hj => ?_, fun i hi9 hne j hj => ?_, d7⟩
    · rw [d4 j hj, k82.1, y1 j (fun z => by subst z; revert hj; decide), c82.1, a82.1]
    · rw [d5 j hj, (e7.1 133 (by decide)).1]
    · rw [d6 i hi9 hne j hj, (e7.1 142 (by decide)).1]
  have b5 : AM [131, 132, 137] (qB A) w u (flr A t x tn 0 (F, 0, 0)).1 h2 h5 := b0.upd e6.1 (fun x hx => by simp at hx ⊢; omega) scF.s (fun j hj => e6.2.1 j (fun z => by subst z; revert hj; decide)) k6.y
  have hr := Rst.act hw0 g1 l2 l3 g4 hT l5 l6 l7 w20 u20 l12 l13 a2 b5 scrA.s scF.s gR (by omega)
  have ex : ∀ x, x ∈ [0, 1, 2, 65, 66, 83, 84, 167] → h5.1 x = hA.1 x ∧ h5.2.1 x = hA.2.1 x := fun x hx => by
    have z1 := a2.1.1 x (fun z => by simp at hx z; omega)
    have z2 := b5.1.1 x (fun z => by simp at hx z; omega)
    exact ⟨z2.1.trans z1.1, z2.2.trans z1.2⟩
  have s82 : ∀ j, j ∈ [1, 7, 8, 116] → h5.1 82 j = hB.1 82 j := fun j hj => by
    rw [e6.2.1 j (fun z => by subst z; revert hj; decide), b2 j (fun z => by subst z; revert hj; decide) (fun z => by subst z; revert hj; decide), k82.1]
  refine inv_mk hi hr ((b5.1.2.trans a2.1.2).trans e0.2) (fun x hx => ?_) ?_ ?_ (fun j hj => ?_) ?_ ⟨0, by decide, ?_, ?_⟩
  · have z1 := ex x (by simp at hx ⊢; omega)
    have z2 := e0.1 x (fun z => by simp at hx z; omega)
    exact ⟨z1.1.trans z2.1, z1.2.trans z2.2⟩
  · rw [(ex 1 (by decide)).1, xj 8 (by decide)]
  · rw [(ex 1 (by decide)).1, xj 9 (by decide)]
  · rw [s82 j (by simp at hj ⊢; omega), y1 j (fun z => by subst z; revert hj; decide)]
  · rw [e6.2.2, b3, k82.2, y3]
  · rw [(ex 1 (by decide)).1, x1]
  · rw [s82 1 (by decide), y2]
end FI
